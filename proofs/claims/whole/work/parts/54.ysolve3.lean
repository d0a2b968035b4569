/-! ===== the reference: rounds, solve ===== -/
theorem so_X_16 {n L : Nat} {t : so_S} {lv fl pf : Nat → Int32} (hL : L ≤ 16) (X : so_X n 16 t lv fl pf) : so_X n L t lv fl pf := ⟨X.1, fun l hl => X.2 l (by omega)⟩
section
variable {g_cellLimit g_callLimit g_closureLimit g_nodes g_holes g_reached : Int32} {b_kinds b_operands b_parents b_s b_p b_rec b_sets b_live b_done b_fn b_val b_entered b_bind : Nat → Int32}
variable {cs n L : Nat} {K P N Lv S O B : Nat → Nat} {t : so_S}
/-- one round -/
theorem yy_round {post : Int32 → SY → Prop} {J : Int32 → Int32 → Int32 → Int32 → Int32 → Int32 → Int32 → Int32 → Int32 → Int32 → (Nat → Int32) → (Nat → Int32) → (Nat → Int32) → (Nat → Int32) → (Nat → Int32) → (Nat → Int32) → (Nat → Int32) → (Nat → Int32) → (Nat → Int32) → (Nat → Int32) → (Nat → Int32) → (Nat → Int32) → (Nat → Int32) → Prop} {x1 x4 : Int32} (A : re_A cs n 0 L K P N Lv S O B) (hk : ∀ m, m < n → b_kinds m = nI (K m) ∧ K m ≤ 6) (hpa : ∀ m, 0 < m → m < n → b_parents m = nI (P m)) (hod : ∀ m, m < n → K m = 0 → b_operands m = nI (O m)) (R : so_R n L t) (X : so_X n 16 t b_live b_s b_p)
    (hJ : ∀ lv fl pf, so_X n 16 (so_G K (tr_e P n) B (tr_lc K) (re_bd K n) L n t) lv fl pf → J x1 (nI (so_V n (so_G K (tr_e P n) B (tr_lc K) (re_bd K n) L n t))) (nI (so_n n (so_G K (tr_e P n) B (tr_lc K) (re_bd K n) L n t))) (x4 + 1) g_cellLimit g_callLimit g_closureLimit (nI n) g_holes g_reached b_kinds b_operands b_parents fl pf b_rec b_sets lv b_done b_fn b_val b_entered b_bind) :
    ∃ f, wY_solve_93 post J x1 (nI 0) (nI 0) x4 f (nI 0) g_cellLimit g_callLimit g_closureLimit (nI n) g_holes g_reached b_kinds b_operands b_parents b_s b_p b_rec b_sets b_live b_done b_fn b_val b_entered b_bind := by
  have hn : n ≤ 48 := by have := A.2.2.1; have := A.2.2.2.1; omega
  have T := re_so_T A (re_bd_is (K := K) (n := n))
  have RG : so_R n L (so_G K (tr_e P n) B (tr_lc K) (re_bd K n) L n t) := so_R_ps T R n (Nat.le_refl n)
  have g3 : ∀ lv fl pf, so_X n 16 (so_G K (tr_e P n) B (tr_lc K) (re_bd K n) L n t) lv fl pf → ∀ d i f, i + d = 16 → d < f → wY_solve_168 post J x1 (nI (so_n n (so_G K (tr_e P n) B (tr_lc K) (re_bd K n) L n t))) x4 g_cellLimit g_callLimit g_closureLimit (nI n) g_holes g_reached b_kinds b_operands b_parents fl pf b_rec b_sets lv b_done b_fn b_val b_entered b_bind f (nI (tr_sum (fun i => (so_G K (tr_e P n) B (tr_lc K) (re_bd K n) L n t).2.1 i) n + tr_sum (fun l => (so_G K (tr_e P n) B (tr_lc K) (re_bd K n) L n t).2.2 l) i)) (nI i) := by
    intro lv fl pf X d
    induction d with
    | zero =>
      intro i f hi hf
      obtain ⟨f, rfl⟩ : ∃ f', f = f' + 1 := ⟨f - 1, by omega⟩
      have e : i = 16 := by omega
      subst e
      exact br_t (by decide) (nm_r (nI_add _ _) (nm_e (hJ lv fl pf X)))
    | succ d ih =>
      intro i f hi hf
      obtain ⟨f, rfl⟩ : ∃ f', f = f' + 1 := ⟨f - 1, by omega⟩
      refine br_f (nI_ge (b := 16) (by omega) (by decide)) ⟨vp_in_nI (by omega) (by omega), ?_⟩
      rw [nI_clamp (by omega), X.2 i (by omega)]
      refine nm_r (nI_add _ _) (nm_r (nI_1 i) ?_)
      rw [Nat.add_assoc]
      exact ih (i + 1) f (by omega) (by omega)
  have g2 : ∀ lv fl pf, so_X n 16 (so_G K (tr_e P n) B (tr_lc K) (re_bd K n) L n t) lv fl pf → ∀ d i f, i + d = n → d < f → wY_solve_127 post J x1 x4 g_cellLimit g_callLimit g_closureLimit (nI n) g_holes g_reached b_kinds b_operands b_parents fl pf b_rec b_sets lv b_done b_fn b_val b_entered b_bind f (nI (tr_sum (fun i => (so_G K (tr_e P n) B (tr_lc K) (re_bd K n) L n t).2.1 i) i)) (nI (tr_sum (fun i => (so_G K (tr_e P n) B (tr_lc K) (re_bd K n) L n t).1 i) i)) (nI i) := by
    intro lv fl pf X d
    induction d with
    | zero =>
      intro i f hi hf
      obtain ⟨f, rfl⟩ : ∃ f', f = f' + 1 := ⟨f - 1, by omega⟩
      have e : i = n := by omega
      subst e
      exact br_t (nI_le (Nat.le_refl _) (by omega)) ⟨17, g3 lv fl pf X 16 0 17 (by omega) (by omega)⟩
    | succ d ih =>
      intro i f hi hf
      obtain ⟨f, rfl⟩ : ∃ f', f = f' + 1 := ⟨f - 1, by omega⟩
      have v : vp_in (nI i) 48 := vp_in_nI (by omega) (by omega)
      have hc := nI_clamp (n := i) (by omega)
      obtain ⟨q1, q2⟩ := X.1 i (by omega)
      have h1 := RG.1 i
      have nx := ih (i + 1) f (by omega) (by omega)
      refine br_f (nI_ge (by omega) (by omega)) ⟨v, ?_⟩
      rw [hc, q1]
      have e2 : tr_sum (fun i => (so_G K (tr_e P n) B (tr_lc K) (re_bd K n) L n t).1 i) (i + 1) = tr_sum (fun i => (so_G K (tr_e P n) B (tr_lc K) (re_bd K n) L n t).1 i) i + (so_G K (tr_e P n) B (tr_lc K) (re_bd K n) L n t).1 i := rfl
      have e1 : tr_sum (fun i => (so_G K (tr_e P n) B (tr_lc K) (re_bd K n) L n t).2.1 i) (i + 1) = tr_sum (fun i => (so_G K (tr_e P n) B (tr_lc K) (re_bd K n) L n t).2.1 i) i + (so_G K (tr_e P n) B (tr_lc K) (re_bd K n) L n t).2.1 i := rfl
      rw [e1, e2] at nx
      by_cases z : (so_G K (tr_e P n) B (tr_lc K) (re_bd K n) L n t).1 i = 1
      · rw [z] at nx ⊢
        refine br_f (by decide) (nm_r (nI_1 _) ⟨v, ?_⟩)
        rw [hc, q2]
        exact nm_r (nI_add _ _) (nm_r (nI_1 i) nx)
      · have z0 : (so_G K (tr_e P n) B (tr_lc K) (re_bd K n) L n t).1 i = 0 := by omega
        rw [z0, Nat.add_zero] at nx
        rw [z0]
        refine br_t rfl ⟨v, ?_⟩
        rw [hc, q2]
        exact nm_r (nI_add _ _) (nm_r (nI_1 i) nx)
  have g1 : ∀ d i f lv fl pf, i + d = n → d < f → so_X n 16 (so_ps K (tr_e P n) B (tr_lc K) (re_bd K n) L t i) lv fl pf → wY_solve_93 post J x1 (nI 0) (nI 0) x4 f (nI i) g_cellLimit g_callLimit g_closureLimit (nI n) g_holes g_reached b_kinds b_operands b_parents fl pf b_rec b_sets lv b_done b_fn b_val b_entered b_bind := by
    intro d
    induction d with
    | zero =>
      intro i f lv fl pf hi hf X
      obtain ⟨f, rfl⟩ : ∃ f', f = f' + 1 := ⟨f - 1, by omega⟩
      have e : i = n := by omega
      subst e
      exact br_t (nI_le (Nat.le_refl _) (by omega)) ⟨i + 1, g2 lv fl pf X i 0 (i + 1) (by omega) (by omega)⟩
    | succ d ih =>
      intro i f lv fl pf hi hf X
      obtain ⟨f, rfl⟩ : ∃ f', f = f' + 1 := ⟨f - 1, by omega⟩
      have Ri := so_R_ps T R i (by omega)
      have e : so_ps K (tr_e P n) B (tr_lc K) (re_bd K n) L t (i + 1) = (if (so_ps K (tr_e P n) B (tr_lc K) (re_bd K n) L t i).1 i = 1 then so_g K (tr_e P n) B (tr_lc K) (re_bd K n) L (so_ps K (tr_e P n) B (tr_lc K) (re_bd K n) L t i) i else so_ps K (tr_e P n) B (tr_lc K) (re_bd K n) L t i) := rfl
      refine br_f (nI_ge (by omega) (by omega)) ⟨vp_in_nI (by omega) (by omega), ?_⟩
      rw [nI_clamp (by omega), (X.1 i (by omega)).1]
      have h1 := Ri.1 i
      by_cases z : (so_ps K (tr_e P n) B (tr_lc K) (re_bd K n) L t i).1 i = 1
      · rw [if_pos z] at e
        refine br_f (nI_ne0 (by omega) (by omega)) ?_
        refine yy_grow A hk hpa hod (by omega) Ri X (fun lv1 fl1 pf1 X1 => nm_r (nI_1 i) ?_)
        exact ih (i + 1) f lv1 fl1 pf1 (by omega) (by omega) (by rw [e]; exact X1)
      · rw [if_neg z] at e
        have z0 : (so_ps K (tr_e P n) B (tr_lc K) (re_bd K n) L t i).1 i = 0 := by omega
        refine br_t (by rw [z0]; rfl) (nm_r (nI_1 i) ?_)
        exact ih (i + 1) f lv fl pf (by omega) (by omega) (by rw [e]; exact X)
  exact ⟨n + 1, g1 n 0 (n + 1) b_live b_s b_p (by omega) (by omega) X⟩
theorem yy_solve {post : Int32 → SY → Prop} {st : Nat} (hst : st ≤ 2) (A : re_A cs n 0 L K P N Lv S O B) (hk : ∀ m, m < n → b_kinds m = nI (K m) ∧ K m ≤ 6) (hpa : ∀ m, 0 < m → m < n → b_parents m = nI (P m)) (hod : ∀ m, m < n → K m = 0 → b_operands m = nI (O m))
    (hpost : ∀ lv fl pf, so_X n 16 (re_sol K P B n L) lv fl pf → post (nI (so_n n (re_sol K P B n L))) (g_cellLimit, g_callLimit, g_closureLimit, (nI n), (nI 0), (nI (if st = 0 then 1 else st)), b_kinds, b_operands, b_parents, fl, pf, b_rec, b_sets, lv, b_done, b_fn, b_val, b_entered, b_bind)) :
    wpY_solve post (g_cellLimit, g_callLimit, g_closureLimit, (nI n), (nI 0), (nI st), b_kinds, b_operands, b_parents, b_s, b_p, b_rec, b_sets, b_live, b_done, b_fn, b_val, b_entered, b_bind) := by
  have hn : n ≤ 48 := by have := A.2.2.1; have := A.2.2.2.1; omega
  have hL : L ≤ 16 := A.2.2.2.2.2.1
  have h0 := (re_full A).1
  have T := re_so_T A (re_bd_is (K := K) (n := n))
  have fin : ∀ lv fl pf, so_X n 16 (re_sol K P B n L) lv fl pf → wY_solve_201 post (nI (so_n n (re_sol K P B n L))) g_cellLimit g_callLimit g_closureLimit (nI n) (nI 0) (nI st) b_kinds b_operands b_parents fl pf b_rec b_sets lv b_done b_fn b_val b_entered b_bind := fun lv fl pf X => by
    have hp := hpost lv fl pf X
    by_cases z : st = 0
    · rw [if_pos z] at hp
      exact br_t (by rw [z]; rfl) hp
    · rw [if_neg z] at hp
      exact br_f (nI_ne0 (by omega) (by omega)) hp
  have V := fun q => so_V_lt hn hL (so_R_it T h0 q)
  have go : ∀ d q f bf nw ct lv fl pf, q + d = 1140 → d < f → (∀ j, 1 ≤ j → j + 1 < q → so_G K (tr_e P n) B (tr_lc K) (re_bd K n) L n (so_it (so_G K (tr_e P n) B (tr_lc K) (re_bd K n) L n) so_t0 j) ≠ so_it (so_G K (tr_e P n) B (tr_lc K) (re_bd K n) L n) so_t0 j) → so_X n 16 (so_it (so_G K (tr_e P n) B (tr_lc K) (re_bd K n) L n) so_t0 q) lv fl pf → (q = 0 → nw = 0 ∧ bf = -1) → (1 ≤ q → nw = nI (so_V n (so_it (so_G K (tr_e P n) B (tr_lc K) (re_bd K n) L n) so_t0 q)) ∧ ct = nI (so_n n (so_it (so_G K (tr_e P n) B (tr_lc K) (re_bd K n) L n) so_t0 q))) → (q = 1 → bf = 0) → (2 ≤ q → bf = nI (so_V n (so_it (so_G K (tr_e P n) B (tr_lc K) (re_bd K n) L n) so_t0 (q - 1)))) → wY_solve_71 post f bf nw ct (nI q) g_cellLimit g_callLimit g_closureLimit (nI n) (nI 0) (nI st) b_kinds b_operands b_parents fl pf b_rec b_sets lv b_done b_fn b_val b_entered b_bind := by
    intro d
    induction d with
    | zero =>
      intro q f bf nw ct lv fl pf hq hf hne
      have h1 := hne 1 (by omega) (by omega)
      have := so_it_bd T h0 (q := 1138) (fun j hj => by
        rcases Nat.eq_zero_or_pos j with z | z
        · subst z
          intro w
          refine h1 ?_
          show so_G K (tr_e P n) B (tr_lc K) (re_bd K n) L n (so_G K (tr_e P n) B (tr_lc K) (re_bd K n) L n so_t0) = so_G K (tr_e P n) B (tr_lc K) (re_bd K n) L n so_t0
          have w' : so_G K (tr_e P n) B (tr_lc K) (re_bd K n) L n so_t0 = so_t0 := w
          rw [w', w']
        · exact hne j z (by omega))
      omega
    | succ d ih =>
      intro q f bf nw ct lv fl pf hq hf hne X c0 c1 c2 c3
      obtain ⟨f, rfl⟩ : ∃ f', f = f' + 1 := ⟨f - 1, by omega⟩
      have R := so_R_it T h0 q
      have Vq := V q
      refine br_f (nI_ge (b := 1200) (by omega) (by decide)) ?_
      by_cases z : nw = bf
      · have q2 : 2 ≤ q := by
          rcases Nat.lt_or_ge q 2 with w | w
          · rcases Nat.eq_zero_or_pos q with y | y
            · have := c0 y
              rw [this.1, this.2] at z
              exact absurd z (by decide)
            · have y1 : q = 1 := by omega
              have a1 := (c1 y).1
              rw [a1, c2 y1] at z
              have p := so_V_pos h0 (so_it_0 T h0 q)
              exact absurd z (nI_ne0 (by omega) (by omega))
          · exact w
        obtain ⟨a1, a2⟩ := c1 (by omega)
        have a3 := c3 q2
        have Vp := V (q - 1)
        rw [a1, a3] at z
        have z' := (nI_eq (by omega) (by omega)).mp z
        obtain ⟨p, rfl⟩ : ∃ p, q = p + 1 := ⟨q - 1, by omega⟩
        rw [Nat.add_sub_cancel] at z' Vp
        have eq : so_G K (tr_e P n) B (tr_lc K) (re_bd K n) L n (so_it (so_G K (tr_e P n) B (tr_lc K) (re_bd K n) L n) so_t0 p) = so_it (so_G K (tr_e P n) B (tr_lc K) (re_bd K n) L n) so_t0 p :=
          so_V_eq hL (so_R_it T h0 p) R (so_ps_up K (tr_e P n) B (tr_lc K) (re_bd K n) L (so_R_it T h0 p).1 n).1 z'.symm
        have es : so_it (so_G K (tr_e P n) B (tr_lc K) (re_bd K n) L n) so_t0 (p + 1) = re_sol K P B n L := by
          show so_G K (tr_e P n) B (tr_lc K) (re_bd K n) L n (so_it (so_G K (tr_e P n) B (tr_lc K) (re_bd K n) L n) so_t0 p) = _
          rw [eq]
          exact so_sol_is T h0 eq
        rw [es] at X a2
        rw [a2]
        rw [a1, a3, Nat.add_sub_cancel]
        refine br_t ?_ (fin lv fl pf X)
        rw [z']
      · refine br_f z ?_
        refine yy_round A hk hpa hod R X (fun lv1 fl1 pf1 X1 => ?_)
        rw [nI_1]
        refine ih (q + 1) f nw _ _ lv1 fl1 pf1 (by omega) (by omega) (fun j j1 j2 => ?_) X1 (fun w => by omega) (fun _ => ⟨rfl, rfl⟩) (fun w => (c0 (by omega)).1) (fun w => ?_)
        · by_cases e : j + 1 = q
          · obtain ⟨a1, a2⟩ := c1 (by omega)
            have a3 := c3 (by omega)
            intro y
            refine z ?_
            have ej : q - 1 = j := by omega
            rw [a1, a3, ej]
            have eq2 : so_it (so_G K (tr_e P n) B (tr_lc K) (re_bd K n) L n) so_t0 q = so_it (so_G K (tr_e P n) B (tr_lc K) (re_bd K n) L n) so_t0 j := by
              rw [← e]; exact y
            rw [eq2]
          · exact hne j j1 (by omega)
        · rw [Nat.add_sub_cancel]
          exact (c1 (by omega)).1
  have start : ∀ d i f lv fl pf, i + d = 48 → d < f → (∀ j, j < i → lv j = nI (if j = 0 then 1 else 0) ∧ fl j = nI 0) → (∀ j, j < i → j < 16 → pf j = nI 0) → wY_solve_19 post (-1) 0 0 g_cellLimit g_callLimit g_closureLimit (nI n) (nI 0) (nI st) f (nI i) b_kinds b_operands b_parents fl pf b_rec b_sets lv b_done b_fn b_val b_entered b_bind := by
    intro d
    induction d with
    | zero =>
      intro i f lv fl pf hi hf h1 h2
      obtain ⟨f, rfl⟩ : ∃ f', f = f' + 1 := ⟨f - 1, by omega⟩
      have e : i = 48 := by omega
      subst e
      refine br_t (by decide) ⟨1142, go 1140 0 1142 (-1) 0 0 lv fl pf (by omega) (by omega) (fun j j1 j2 => by omega) ⟨fun j hj => ?_, fun l hl => ?_⟩ (fun _ => ⟨rfl, rfl⟩) (fun w => by omega) (fun w => by omega) (fun w => by omega)⟩
      · exact h1 j (by omega)
      · exact h2 l (by omega) hl
    | succ d ih =>
      intro i f lv fl pf hi hf h1 h2
      obtain ⟨f, rfl⟩ : ∃ f', f = f' + 1 := ⟨f - 1, by omega⟩
      have v : vp_in (nI i) 48 := vp_in_nI (by omega) (by omega)
      have hc := nI_clamp (n := i) (by omega)
      have hr : nI i - nI i / 16 * 16 = nI (i % 16) := pk_rem (d := 16) (by omega) (by decide) (by decide)
      have vr : vp_in (nI (i % 16)) 16 := vp_in_nI (by omega) (by omega)
      have body : ∀ (b : Nat), b = (if i = 0 then 1 else 0) → wY_solve_42 post (wY_solve_19 post (-1) 0 0 g_cellLimit g_callLimit g_closureLimit (nI n) (nI 0) (nI st) f) (-1) 0 0 (nI i) (nI b) (nI i) g_cellLimit g_callLimit g_closureLimit (nI n) (nI 0) (nI st) b_kinds b_operands b_parents fl pf b_rec b_sets lv b_done b_fn b_val b_entered b_bind := fun b hb => by
        refine ⟨v, nm_e ⟨v, nm_e ⟨by decide, ?_⟩⟩⟩
        rw [hr, hc, nI_clamp (by omega)]
        have eb : vp_nar .boolean (nI b) = nI b := by
          by_cases w : i = 0
          · rw [if_pos w] at hb; subst hb; rfl
          · rw [if_neg w] at hb; subst hb; rfl
        rw [eb]
        refine ⟨vr, nm_e (nm_r (nI_1 i) ?_)⟩
        refine ih (i + 1) f _ _ _ (by omega) (by omega) (fun j hj => ?_) (fun j hj hj16 => ?_)
        · by_cases w : j = i
          · rw [w, re_us, re_us, hb]; exact ⟨rfl, rfl⟩
          · rw [re_un w, re_un w]; exact h1 j (by omega)
        · by_cases w : j = i % 16
          · rw [w, re_us]; rfl
          · rw [re_un w]
            refine h2 j ?_ hj16
            by_cases y : j = i
            · exfalso; omega
            · omega
      refine br_f (nI_ge (b := 48) (by omega) (by decide)) ?_
      by_cases w : i = 0
      · exact br_t (by rw [w]; rfl) (body 1 (if_pos w).symm)
      · exact br_f (nI_ne0 (by omega) (by omega)) (body 0 (if_neg w).symm)
  exact br_t (by decide) ⟨49, start 48 0 49 b_live b_s b_p (by omega) (by omega) (fun j hj => absurd hj (Nat.not_lt_zero j)) (fun j hj => absurd hj (Nat.not_lt_zero j))⟩
end
theorem i_vc_solve {k : Nat} {u : SX} {v : SY} (I : i_Rel k u v) (hk : k + 3 ≤ 1539) : wpX_solve (fun r u' => wpY_solve (fun r' v' => r' = r ∧ i_Rel (k + 3) u' v') v) u := by
  refine i_el (G := fun u v => wpX_solve (fun r u' => wpY_solve (fun r' v' => r' = r ∧ i_Rel (k + 3) u' v') v) u) I ?_
  intro cs cl cm n h L st cn K P N Lv S O B oc nd tg bs en dn et bi f_grown f_runningEngine f_ending f_callCount f_closureCount f_frame f_waitingCount a_kinds a_operands a_parents a_places a_children a_levels a_nests a_scopes a_nodeLambdas a_lambdaNodes a_liveNodes a_nodeFlows a_paramFlows a_entries a_frameReturns a_closureLambdas a_records a_calledSets a_closureValues a_frameValues a_waiting b_s b_p b_live b_fn b_val hI I0
  obtain ⟨A, X, l1, l2, m1, m2, s, S1, S2⟩ := hI
  obtain ⟨hn, hh, hL⟩ := ez_48 A
  by_cases z : h = 0
  · subst z
    refine xx_solve s A X (fun lv fl pf g X1 => ?_)
    refine yy_solve s A (ez_kd A X) X.2.2.2.1 X.2.1 (fun lv2 fl2 pf2 X2 => ⟨rfl, ?_⟩)
    refine i_in (K := K) (P := P) (N := N) (Lv := Lv) (S := S) (O := O) (B := B) (en := en) ?_
    refine ⟨A, X, l1, l2, m1, m2, ?_, fun _ => ⟨rfl, X1, so_X_16 hL X2⟩, fun w => ?_⟩
    · by_cases y : st = 0
      · rw [if_pos y]; omega
      · rw [if_neg y]; exact s
    · have y : ¬ st = 0 := fun y => by rw [if_pos y] at w; omega
      rw [if_neg y] at w
      exact S2 w
  · have nz : ¬ nI h ≤ 0 := nI_nle (by omega) (by omega)
    exact br_f nz (br_f nz ⟨rfl, I0⟩)
