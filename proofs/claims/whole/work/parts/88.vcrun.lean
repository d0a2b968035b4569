/-! ===== run, the two sides ===== -/
theorem i_vc_run {k : Nat} {u : SX} {v : SY} (I : i_Rel k u v) (hk : k + 3 ≤ 1539) (v1 : Int32) : wpX_run (fun r u' => wpY_run (fun r' v' => r' = r ∧ i_Rel (k + 3) u' v') v v1) u v1 := by
  refine i_el (G := fun u v => wpX_run (fun r u' => wpY_run (fun r' v' => r' = r ∧ i_Rel (k + 3) u' v') v v1) u v1) I ?_
  intro cs cl cm n h L st cn K P N Lv S O B oc nd tg bs en dn et bi f_grown f_runningEngine f_ending f_callCount f_closureCount f_frame f_waitingCount a_kinds a_operands a_parents a_places a_children a_levels a_nests a_scopes a_nodeLambdas a_lambdaNodes a_liveNodes a_nodeFlows a_paramFlows a_entries a_frameReturns a_closureLambdas a_records a_calledSets a_closureValues a_frameValues a_waiting b_s b_p b_live b_fn b_val hI I0
  obtain ⟨A, X, l1, l2, m1, m2, s, S1, S2⟩ := hI
  obtain ⟨hn, hh, hL⟩ := ez_48 A
  have kd := ez_kd A X
  -- the reference's side, behind the class's
  have fin : ∀ E : Nat, E < 2 → h = 0 → (E = 1 → st = 2) → ∀ (xr xe xa xo xf xw : Int32) (r1 r2 : Nat → Int32) (q1 q2 q3 : Nat → Int64), wpY_run (fun r' v' => r' = nI (ru_e (ru_ev K P N O a_operands n cl cm).1) ∧ i_Rel (k + 3) ((nI cs), (nI cl), (nI cm), (nI n), (nI h), (nI L), (nI st), f_grown, (nI cn), xr, xe, xa, xo, xf, xw, a_kinds, a_operands, a_parents, a_places, a_children, a_levels, a_nests, a_scopes, a_nodeLambdas, a_lambdaNodes, a_liveNodes, a_nodeFlows, a_paramFlows, (rn_F oc), (rn_F nd), (rn_F tg), (rn_F bs), a_entries, r1, q1, r2, q2, q3, (ru_r E a_records (nI (ru_e (ru_ev K P N O a_operands n cl cm).1)) (ru_v K (ru_ev K P N O a_operands n cl cm).2 (ru_ev K P N O a_operands n cl cm).1) (ru_n (ru_ev K P N O a_operands n cl cm).1) (nI (ru_ev K P N O a_operands n cl cm).2.1) (nI (ru_ev K P N O a_operands n cl cm).2.2.1)), (re_cs E a_calledSets (ru_ev K P N O a_operands n cl cm).2.2.2.2.2)) v') ((nI cs), (nI cl), (nI cm), (nI n), (nI h), (nI st), a_kinds, a_operands, a_parents, b_s, b_p, a_records, a_calledSets, b_live, (rn_F dn), b_fn, b_val, (rn_F et), (rn_F bi)) (nI E) := by
    intro E hE h0 hst xr xe xa xo xf xw r1 r2 q1 q2 q3
    subst h0
    have main : wY_run_34 (fun r' v' => r' = nI (ru_e (ru_ev K P N O a_operands n cl cm).1) ∧ i_Rel (k + 3) ((nI cs), (nI cl), (nI cm), (nI n), (nI 0), (nI L), (nI st), f_grown, (nI cn), xr, xe, xa, xo, xf, xw, a_kinds, a_operands, a_parents, a_places, a_children, a_levels, a_nests, a_scopes, a_nodeLambdas, a_lambdaNodes, a_liveNodes, a_nodeFlows, a_paramFlows, (rn_F oc), (rn_F nd), (rn_F tg), (rn_F bs), a_entries, r1, q1, r2, q2, q3, (ru_r E a_records (nI (ru_e (ru_ev K P N O a_operands n cl cm).1)) (ru_v K (ru_ev K P N O a_operands n cl cm).2 (ru_ev K P N O a_operands n cl cm).1) (ru_n (ru_ev K P N O a_operands n cl cm).1) (nI (ru_ev K P N O a_operands n cl cm).2.1) (nI (ru_ev K P N O a_operands n cl cm).2.2.1)), (re_cs E a_calledSets (ru_ev K P N O a_operands n cl cm).2.2.2.2.2)) v') (nI E) (nI cs) (nI cl) (nI cm) (nI n) (nI 0) (nI st) a_kinds a_operands a_parents b_s b_p a_records a_calledSets b_live (rn_F dn) b_fn b_val (rn_F et) (rn_F bi) := by
      refine yy_run A kd X.2.2.2.1 X.2.1 hE l2 m2 (fun dn' fn' vl' et' bi' => ⟨rfl, ?_⟩)
      exact i_in (K := K) (P := P) (N := N) (Lv := Lv) (S := S) (O := O) (B := B) (en := en) ⟨A, X, l1, l2, m1, m2, s, S1, S2⟩
    have nz : ¬ (0 : Int32) < nI 0 := by decide
    have hc : E = 0 ∨ E = 1 := by omega
    rcases hc with e | e
    · subst e
      exact br_t rfl (br_f nz (br_f (by decide) main))
    · have st2 := hst e
      subst e
      have g2 : (2 : Int32) ≤ nI st := by rw [st2]; decide
      exact br_f (by decide) (br_t rfl (br_f nz (br_t rfl (br_t g2 main))))
  rcases ez_e v1 with rfl | rfl | ⟨a, b, c⟩
  · -- the interpreter
    refine br_t rfl (br_f (by decide) ?_)
    by_cases h0 : h = 0
    · subst h0
      refine br_f (by decide) (br_f (by decide) ?_)
      unfold wX_run_32
      refine xx_startRun (E := 0) (by decide) (br_t rfl ?_)
      exact xx_interpret A X (by decide) l2 m2 (fun ca co cll clv fr ret fv wc wt => fin 0 (by decide) rfl (fun w => by omega) _ _ _ _ _ _ _ _ _ _ _)
    · have q : (0 : Int32) < nI h := nI_lt (a := 0) (by omega) (by omega)
      exact br_t q (br_t rfl (br_t q ⟨rfl, I0⟩))
  · -- the compiled engine
    refine br_f (by decide) (br_t rfl (br_f (by decide) ?_))
    by_cases h0 : h = 0
    · subst h0
      refine br_f (by decide) (br_t rfl ?_)
      by_cases s2 : st = 2
      · have g2 : (2 : Int32) ≤ nI st := by rw [s2]; decide
        refine br_t g2 ?_
        obtain ⟨hcn, I1, I2, I3⟩ := S2 s2
        have T := re_so_T A (re_bd_is (K := K) (n := n))
        have hn0 := (re_full A).1
        unfold wX_run_32
        refine xx_startRun (E := 1) (by decide) (br_f (by decide) ?_)
        exact xx_execute A X (by decide) l2 m2 hcn (so_sol_Cl T hn0) (so_sol_0 T hn0) I1 I2 I3 (fun ca co cll clv fr ret fv wc wt => fin 1 (by decide) rfl (fun _ => s2) _ _ _ _ _ _ _ _ _ _ _)
      · have g2 : ¬ (2 : Int32) ≤ nI st := nI_ge (b := 2) (by omega) (by decide)
        exact br_f g2 (br_f (by decide) (br_t rfl (br_f (by decide) (br_t rfl (br_f g2 ⟨rfl, I0⟩)))))
    · have q : (0 : Int32) < nI h := nI_lt (a := 0) (by omega) (by omega)
      exact br_t q (br_f (by decide) (br_t rfl (br_t q ⟨rfl, I0⟩)))
  · exact br_f a (br_f b (br_t rfl (br_f a (br_f b ⟨rfl, I0⟩))))
