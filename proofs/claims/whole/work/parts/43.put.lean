/-! ===== put ===== -/
theorem re_p_ex {cs n h L : Nat} {K P N Lv S O B : Nat → Nat} (A : re_A cs n h L K P N Lv S O B) (hh : 0 < h) : ∃ p, re_p K P n p := by
  by_cases z : n = 0
  · exact ⟨0, fun w => by omega⟩
  · have go : ∀ d q, q < n → tr_cnt P q n < tr_ar (K q) → n - q ≤ d → ∃ p, p < n ∧ tr_cnt P p n < tr_ar (K p) ∧ ∀ r, p < r → r < n → tr_ar (K r) ≤ tr_cnt P r n := by
      intro d
      induction d with
      | zero => intro q h1 _ h2; omega
      | succ d ih =>
        intro q h1 h2 h3
        by_cases w : ∃ r, q < r ∧ r < n ∧ tr_cnt P r n < tr_ar (K r)
        · obtain ⟨r, r1, r2, r3⟩ := w
          exact ih r r2 r3 (by omega)
        · refine ⟨q, h1, h2, fun r r1 r2 => ?_⟩
          rcases Nat.lt_or_ge (tr_cnt P r n) (tr_ar (K r)) with y | y
          · exact absurd ⟨r, r1, r2, y⟩ w
          · exact y
    obtain ⟨q, q1, q2⟩ := tr_open_ex A.1 A.2.1 (by omega) hh
    obtain ⟨p, p1⟩ := go n q q1 q2 (by omega)
    exact ⟨p, fun _ => p1⟩
theorem i_vc_put {k : Nat} {u : SX} {v : SY} (I : i_Rel k u v) (hk : k + 3 ≤ 1539) (v1 : Int32) (v2 : Int32) : wpX_put (fun r u' => wpY_put (fun r' v' => r' = r ∧ i_Rel (k + 3) u' v') v v1 v2) u v1 v2 := by
  refine i_el (G := fun u v => wpX_put (fun r u' => wpY_put (fun r' v' => r' = r ∧ i_Rel (k + 3) u' v') v v1 v2) u v1 v2) I ?_
  intro cs cl cm n h L st cn K P N Lv S O B oc nd tg bs en dn et bi f_grown f_runningEngine f_ending f_callCount f_closureCount f_frame f_waitingCount a_kinds a_operands a_parents a_places a_children a_levels a_nests a_scopes a_nodeLambdas a_lambdaNodes a_liveNodes a_nodeFlows a_paramFlows a_entries a_frameReturns a_closureLambdas a_records a_calledSets a_closureValues a_frameValues a_waiting b_s b_p b_live b_fn b_val hI I0
  obtain ⟨A, X, l1, l2, m1, m2, s, S1, S2⟩ := hI
  obtain ⟨hn, hh, hL⟩ := ez_48 A
  rcases pk_ix v1 (n := 7) (by decide) with z | z | ⟨j, j1, rfl⟩
  · exact br_t z (br_t z ⟨rfl, I0⟩)
  · have z0 : ¬ v1 < 0 := fun w => by
      have h1 := Int32.lt_of_le_of_lt z w
      exact absurd h1 (by decide)
    have z6 : ¬ v1 ≤ 6 := fun w => by
      have h1 := Int32.le_trans z w
      exact absurd h1 (by decide)
    exact br_f z0 (br_f z6 (br_f z0 (br_f z6 ⟨rfl, I0⟩)))
  · by_cases h0 : h = 0
    · subst h0
      refine br_f (nI_pos (by omega)) (br_t (nI_le (b := 6) (by omega) (by decide)) (br_t rfl ?_))
      exact br_f (nI_pos (by omega)) (br_t (nI_le (b := 6) (by omega) (by decide)) (br_t rfl ⟨rfl, I0⟩))
    · have h0' : 0 < h := by omega
      have st0 : st = 0 := by
        rcases Nat.eq_zero_or_pos st with q | q
        · exact q
        · have := (S1 q).1; omega
      obtain ⟨p, hp⟩ := re_p_ex A h0'
      have kd := ez_kd A X
      have pos : ∀ {r : Int32}, r = nI n → r < 0 → False := fun e w => by
        rw [e] at w
        exact nI_pos (by omega) w
      refine xx_put A (by omega) h0' hp X (fun r er rn => ?_) (fun e o l pl' ch' le' ne' sc' nl' ln' A' X' => ?_)
      · exact yy_put A (by omega) h0' kd X.2.2.2.1 X.2.2.1 hp (fun r' er' _ => ⟨er'.trans er.symm, I0⟩) (fun e => (pos (er.trans e) rn).elim)
      · refine yy_put A (by omega) h0' kd X.2.2.2.1 X.2.2.1 hp (fun r' er' rn => (pos (er'.trans e) rn).elim) (fun _ => ⟨rfl, ?_⟩)
        exact i_in (en := en) ⟨A', X', l1, l2, m1, m2, s, fun w => by omega, fun w => by omega⟩
