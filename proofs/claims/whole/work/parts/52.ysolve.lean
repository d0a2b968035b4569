/-! ===== the reference: one node of a pass ===== -/
section
variable {g_cellLimit g_callLimit g_closureLimit g_nodes g_holes g_reached : Int32} {b_kinds b_operands b_parents b_s b_p b_rec b_sets b_live b_done b_fn b_val b_entered b_bind : Nat → Int32}
variable {cs n h L : Nat} {K P N Lv S O B : Nat → Nat} {t : so_S}
theorem yy_kid0 {post : Int32 → Prop} {m : Nat} (A : re_A cs n 0 L K P N Lv S O B) (hpa : ∀ m, 0 < m → m < n → b_parents m = nI (P m)) (hm : m < n) (k : 2 ≤ K m) (hp : post (nI (m + 1))) : wpY_child post (g_cellLimit, g_callLimit, g_closureLimit, (nI n), g_holes, g_reached, b_kinds, b_operands, b_parents, b_s, b_p, b_rec, b_sets, b_live, b_done, b_fn, b_val, b_entered, b_bind) (nI m) (nI 0) := by
  have hn : n ≤ 48 := by have := A.2.2.1; have := A.2.2.2.1; omega
  obtain ⟨h0, F⟩ := re_full A
  have ha : 0 < tr_ar (K m) := by
    by_cases k2 : K m = 2
    · rw [tr_ar_1 k2]; omega
    · by_cases k6 : K m = 6
      · rw [tr_ar_3 k6]; omega
      · rw [tr_ar_2 (by omega) k6]; omega
  obtain ⟨a, b, c⟩ := tr_first A.1 F hm ha
  refine yy_child hn (by omega) hpa A.1 hm (fun c' c0 c1 c2 c3 => ?_) (fun w => ?_)
  · have := tr_uniq c0 (show 0 < m + 1 by omega) c2 b (by omega)
    rw [this]; exact hp
  · rw [F m hm] at w; omega
theorem yy_kid1 {post : Int32 → Prop} {m : Nat} (A : re_A cs n 0 L K P N Lv S O B) (hpa : ∀ m, 0 < m → m < n → b_parents m = nI (P m)) (hm : m < n) (k : 3 ≤ K m) (hp : post (nI (tr_e P n (m + 1)))) : wpY_child post (g_cellLimit, g_callLimit, g_closureLimit, (nI n), g_holes, g_reached, b_kinds, b_operands, b_parents, b_s, b_p, b_rec, b_sets, b_live, b_done, b_fn, b_val, b_entered, b_bind) (nI m) (nI 1) := by
  have hn : n ≤ 48 := by have := A.2.2.1; have := A.2.2.2.1; omega
  obtain ⟨h0, F⟩ := re_full A
  have ha : 2 ≤ tr_ar (K m) := by
    by_cases k6 : K m = 6
    · rw [tr_ar_3 k6]; omega
    · rw [tr_ar_2 k k6]; omega
  obtain ⟨a, b, c⟩ := tr_kid1 A.1 F hm ha
  have hq := (tr_par2 A.1 F hm k).1
  refine yy_child hn (by omega) hpa A.1 hm (fun c' c0 c1 c2 c3 => ?_) (fun w => ?_)
  · have := tr_uniq c0 (show 0 < tr_e P n (m + 1) by omega) c2 b (by omega)
    rw [this]; exact hp
  · rw [F m hm] at w; omega
theorem yy_kid2 {post : Int32 → Prop} {m : Nat} (A : re_A cs n 0 L K P N Lv S O B) (hpa : ∀ m, 0 < m → m < n → b_parents m = nI (P m)) (hm : m < n) (k : K m = 6) (hp : post (nI (tr_e P n (tr_e P n (m + 1))))) : wpY_child post (g_cellLimit, g_callLimit, g_closureLimit, (nI n), g_holes, g_reached, b_kinds, b_operands, b_parents, b_s, b_p, b_rec, b_sets, b_live, b_done, b_fn, b_val, b_entered, b_bind) (nI m) (nI 2) := by
  have hn : n ≤ 48 := by have := A.2.2.1; have := A.2.2.2.1; omega
  obtain ⟨h0, F⟩ := re_full A
  have ha : 3 ≤ tr_ar (K m) := by rw [tr_ar_3 k]; omega
  obtain ⟨a, b, c⟩ := tr_kid2 A.1 F hm ha
  have hq := (tr_par3 A.1 F hm k).1
  refine yy_child hn (by omega) hpa A.1 hm (fun c' c0 c1 c2 c3 => ?_) (fun w => ?_)
  · have := tr_uniq c0 (show 0 < tr_e P n (tr_e P n (m + 1)) by omega) c2 b (by omega)
    rw [this]; exact hp
  · rw [F m hm] at w; omega
theorem yy_kidx {post : Int32 → Prop} {m k : Nat} (A : re_A cs n h L K P N Lv S O B) (hpa : ∀ m, 0 < m → m < n → b_parents m = nI (P m)) (hm : m < n) (hk : k < 3) (hp : ∀ x, post x) : wpY_child post (g_cellLimit, g_callLimit, g_closureLimit, (nI n), g_holes, g_reached, b_kinds, b_operands, b_parents, b_s, b_p, b_rec, b_sets, b_live, b_done, b_fn, b_val, b_entered, b_bind) (nI m) (nI k) := by
  have hn : n ≤ 48 := by have := A.2.2.1; have := A.2.2.2.1; omega
  exact yy_child hn hk hpa A.1 hm (fun _ _ _ _ _ => hp _) (fun _ => hp _)
/-- the loop over the lambdas, of a node that is no call -/
theorem yy_grow_x {post : SY → Prop} {x1 x3 x4 : Int32} {k : Nat} (hk : k ≤ 6) (k3 : k ≠ 3) (hp : post (g_cellLimit, g_callLimit, g_closureLimit, g_nodes, g_holes, g_reached, b_kinds, b_operands, b_parents, b_s, b_p, b_rec, b_sets, b_live, b_done, b_fn, b_val, b_entered, b_bind)) : ∀ d l f, l + d = 16 → d < f → wY_grow_209 post x1 (nI k) x3 x4 g_cellLimit g_callLimit g_closureLimit g_nodes g_holes g_reached f (nI l) b_kinds b_operands b_parents b_s b_p b_rec b_sets b_live b_done b_fn b_val b_entered b_bind := by
  intro d
  induction d with
  | zero =>
    intro l f hl hf
    obtain ⟨f, rfl⟩ : ∃ f', f = f' + 1 := ⟨f - 1, by omega⟩
    have e : l = 16 := by omega
    subst e
    exact br_t (by decide) hp
  | succ d ih =>
    intro l f hl hf
    obtain ⟨f, rfl⟩ : ∃ f', f = f' + 1 := ⟨f - 1, by omega⟩
    refine br_f (nI_ge (b := 16) (by omega) (by decide)) (br_f (fun w => k3 ((nI_eq (b := 3) (by omega) (by decide)).mp w)) (nm_r (nI_1 l) ?_))
    exact ih (l + 1) f (by omega) (by omega)
theorem yy_grow_l {post : SY → Prop} {m c0 c1 : Nat} {t1 : so_S} (A : re_A cs n 0 L K P N Lv S O B) (hk : ∀ m, m < n → b_kinds m = nI (K m) ∧ K m ≤ 6) (hm : m < n) (h0 : c0 < n) (h1 : c1 < n) (hne : c1 ≠ m) (R : so_R n L t1) (hz : t1.2.1 c1 ≠ 0)
    (hpost : ∀ lv fl pf, so_X n 16 (so_lp c0 c1 m (re_bd K n) t1 L) lv fl pf → post (g_cellLimit, g_callLimit, g_closureLimit, (nI n), g_holes, g_reached, b_kinds, b_operands, b_parents, fl, pf, b_rec, b_sets, lv, b_done, b_fn, b_val, b_entered, b_bind)) :
    ∀ d l f lv fl pf, l + d = 16 → d < f → so_X n 16 (so_lp c0 c1 m (re_bd K n) t1 l) lv fl pf → (so_lp c0 c1 m (re_bd K n) t1 l).2.1 c1 = t1.2.1 c1 → wY_grow_209 post (nI m) (nI 3) (nI c0) (nI c1) g_cellLimit g_callLimit g_closureLimit (nI n) g_holes g_reached f (nI l) b_kinds b_operands b_parents fl pf b_rec b_sets lv b_done b_fn b_val b_entered b_bind := by
  have hn : n ≤ 48 := by have := A.2.2.1; have := A.2.2.2.1; omega
  have hL : L ≤ 16 := A.2.2.2.2.2.1
  have hLn := A.2.2.2.2.1
  have T := re_so_T A (re_bd_is (K := K) (n := n))
  have hbd := T.2.2.2.2.2.2
  intro d
  induction d with
  | zero =>
    intro l f lv fl pf hl hf X e1
    obtain ⟨f, rfl⟩ : ∃ f', f = f' + 1 := ⟨f - 1, by omega⟩
    have e : l = 16 := by omega
    subst e
    have e16 := so_lp_16 (c0 := c0) (c1 := c1) R hm hbd (16 - L) (by omega)
    rw [Nat.add_sub_cancel' hL] at e16
    rw [e16] at X
    exact br_t (by decide) (hpost lv fl pf X)
  | succ d ih =>
    intro l f lv fl pf hl hf X e1
    obtain ⟨f, rfl⟩ : ∃ f', f = f' + 1 := ⟨f - 1, by omega⟩
    have Rl : so_R n L (so_lp c0 c1 m (re_bd K n) t1 l) := by
      rcases Nat.lt_or_ge l L with q | q
      · exact so_R_lp R hm hbd l (by omega)
      · have := so_lp_16 (c0 := c0) (c1 := c1) R hm hbd (l - L) (by omega)
        rw [Nat.add_sub_cancel' q] at this
        rw [this]
        exact so_R_lp R hm hbd L (Nat.le_refl L)
    have ms := fun i => so_ms_lt hL (Rl.2.2.2.1 i)
    have m0 := ms c0
    have m1 := ms c1
    have step : so_lp c0 c1 m (re_bd K n) t1 (l + 1) = so_st c0 c1 m (re_bd K n) (so_lp c0 c1 m (re_bd K n) t1 l) l := rfl
    have v0 : vp_in (nI c0) 48 := vp_in_nI (by omega) (by omega)
    have v1 : vp_in (nI c1) 48 := vp_in_nI (by omega) (by omega)
    have vm : vp_in (nI m) 48 := vp_in_nI (by omega) (by omega)
    have vl : vp_in (nI l) 16 := vp_in_nI (by omega) (by omega)
    refine br_f (nI_ge (b := 16) (by omega) (by decide)) (br_t rfl ⟨v1, ?_⟩)
    rw [nI_clamp (by omega), (X.1 c1 h1).2, e1]
    rw [e1] at m1
    refine br_f (nI_ne0 (by omega) (by omega)) ⟨v0, ?_⟩
    rw [nI_clamp (by omega), (X.1 c0 h0).2]
    cases z : ((so_lp c0 c1 m (re_bd K n) t1 l).2.1 c0).testBit l with
    | false =>
      refine br_t ((bi_shr (by omega) (by omega)).mpr z) (nm_r (nI_1 l) ?_)
      have e : so_lp c0 c1 m (re_bd K n) t1 (l + 1) = so_lp c0 c1 m (re_bd K n) t1 l := by
        rw [step]
        unfold so_st
        rw [if_neg (by rw [z]; decide)]
      exact ih (l + 1) f lv fl pf (by omega) (by omega) (by rw [e]; exact X) (by rw [e]; exact e1)
    | true =>
      have hlL : l < L := by
        have := Rl.2.2.2.1 c0 l z
        omega
      have e : so_lp c0 c1 m (re_bd K n) t1 (l + 1) = so_fl (so_pa (so_lv (so_lp c0 c1 m (re_bd K n) t1 l) (re_bd K n l)) l ((so_lp c0 c1 m (re_bd K n) t1 l).2.1 c1)) m ((so_lp c0 c1 m (re_bd K n) t1 l).2.1 (re_bd K n l)) := by
        rw [step]
        unfold so_st
        rw [if_pos z]
      have hb := hbd l hlL
      refine br_f (fun w => by rw [(bi_shr (by omega) (by omega)).mp w] at z; cases z) ?_
      refine yy_lambdaNode hn hk (fun a ha ka ea => ?_) (fun w => ?_)
      · have la := tr_lc_lt ha ka
        have el : l = tr_lc K a := (nI_eq (by omega) (by omega)).mp ea
        have eb : a + 1 = re_bd K n l := by rw [el]; exact (re_bd_is a ha ka).symm
        refine nm_r (nI_1 a) ?_
        rw [eb]
        have vb : vp_in (nI (re_bd K n l)) 48 := vp_in_nI (by omega) (by omega)
        refine ⟨vb, nm_e ⟨vl, v1, vl, nm_e ⟨vm, vb, vm, nm_e (nm_r (nI_1 l) ?_)⟩⟩⟩
        rw [nI_clamp (n := re_bd K n l) (by omega), nI_clamp (n := l) (by omega), nI_clamp (n := m) (by omega), so_b1]
        have X1 := so_X_lv X (re_bd K n l)
        have X2 := so_X_pa X1 l ((so_lp c0 c1 m (re_bd K n) t1 l).2.1 c1) (x := pf l ||| nI (t1.2.1 c1)) (by rw [X.2 l (by omega), ← e1, bi_or]; rfl)
        have X3 := so_X_fl X2 m ((so_lp c0 c1 m (re_bd K n) t1 l).2.1 (re_bd K n l)) (x := fl m ||| fl (re_bd K n l)) (by rw [(X.1 m hm).2, (X.1 _ hb).2, bi_or]; rfl)
        refine ih (l + 1) f _ _ _ (by omega) (by omega) (by rw [e]; exact X3) ?_
        rw [e]
        show tr_put (so_lp c0 c1 m (re_bd K n) t1 l).2.1 m _ c1 = _
        rw [tr_put_n _ _ hne]
        exact e1
      · obtain ⟨a, a1, a2, a3⟩ := tr_lc_find (K := K) (l := l) n (by omega)
        exact absurd (by rw [a3]) (w a a1 a2)
end
