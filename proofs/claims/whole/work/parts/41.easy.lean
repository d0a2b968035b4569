/-! ===== the calls that need no solution ===== -/
theorem ez_5 (x : Int32) : 5 ≤ x ↔ 4 < x := by
  rw [Int32.le_iff_toInt_le, Int32.lt_iff_toInt_lt]
  have h1 : (5 : Int32).toInt = 5 := rfl
  have h2 : (4 : Int32).toInt = 4 := rfl
  omega
theorem ez_1 (x : Int32) : x < 1 ↔ x ≤ 0 := by
  rw [Int32.le_iff_toInt_le, Int32.lt_iff_toInt_lt]
  have h1 : (1 : Int32).toInt = 1 := rfl
  have h2 : (0 : Int32).toInt = 0 := rfl
  omega
/-- an engine's number -/
theorem ez_e (x : Int32) : (x = 0) ∨ (x = 1) ∨ (¬ x = 0 ∧ ¬ x = 1 ∧ (x < 0 ∨ (¬ x < 0 ∧ 1 < x))) := by
  by_cases a : x = 0
  · exact Or.inl a
  · by_cases b : x = 1
    · exact Or.inr (Or.inl b)
    · refine Or.inr (Or.inr ⟨a, b, ?_⟩)
      by_cases c : x < 0
      · exact Or.inl c
      · obtain ⟨j, j1, rfl⟩ := nI_of c
        refine Or.inr ⟨c, nI_lt (a := 1) ?_ j1⟩
        have h0 : j ≠ 0 := fun z => a (by rw [z]; rfl)
        have h1 : j ≠ 1 := fun z => b (by rw [z]; rfl)
        omega
theorem i_vc_stage {k : Nat} {u : SX} {v : SY} (I : i_Rel k u v) (hk : k + 3 ≤ 1539) : wpX_stage (fun r => wpY_stage (fun r' => r' = r ∧ i_Rel (k + 3) u v) v) u := by
  refine i_el (G := fun u v => wpX_stage (fun r => wpY_stage (fun r' => r' = r ∧ i_Rel (k + 3) u v) v) u) I ?_
  intro cs cl cm n h L st cn K P N Lv S O B oc nd tg bs en dn et bi f_grown f_runningEngine f_ending f_callCount f_closureCount f_frame f_waitingCount a_kinds a_operands a_parents a_places a_children a_levels a_nests a_scopes a_nodeLambdas a_lambdaNodes a_liveNodes a_nodeFlows a_paramFlows a_entries a_frameReturns a_closureLambdas a_records a_calledSets a_closureValues a_frameValues a_waiting b_s b_p b_live b_fn b_val hI I0
  exact br_c (fun z => br_t z ⟨rfl, I0⟩) (fun z => br_f z ⟨rfl, I0⟩)
theorem i_vc_clear {k : Nat} {u : SX} {v : SY} (I : i_Rel k u v) (hk : k + 3 ≤ 1539) : wpX_clear (fun u' => wpY_clear (fun v' => i_Rel (k + 3) u' v') v) u := by
  refine i_el (G := fun u v => wpX_clear (fun u' => wpY_clear (fun v' => i_Rel (k + 3) u' v') v) u) I ?_
  intro cs cl cm n h L st cn K P N Lv S O B oc nd tg bs en dn et bi f_grown f_runningEngine f_ending f_callCount f_closureCount f_frame f_waitingCount a_kinds a_operands a_parents a_places a_children a_levels a_nests a_scopes a_nodeLambdas a_lambdaNodes a_liveNodes a_nodeFlows a_paramFlows a_entries a_frameReturns a_closureLambdas a_records a_calledSets a_closureValues a_frameValues a_waiting b_s b_p b_live b_fn b_val hI I0
  obtain ⟨A, X, l1, l2, m1, m2, s, S1, S2⟩ := hI
  refine nm_e (nm_e (nm_e (nm_e ?_)))
  refine i_in (n := 0) (h := 1) (L := 0) (st := 0) (K := K) (P := P) (N := N) (Lv := Lv) (S := S) (O := O) (B := B) (en := en) ?_
  have h48 := A.2.2.2.1
  have hb := A.2.2.1
  refine ⟨re_A_0 ?_ h48 _ _ _ _ _ _ _, re_X_0 _ _ _ _ _ _ _ _ _ _ _ _ _ _ _ _ _, l1, l2, m1, m2, by decide, fun z => absurd z (by decide), fun z => absurd z (by decide)⟩
  have H : h + n = 1 + tr_sum (fun i => tr_ar (K i)) n := A.2.1
  omega
theorem i_vc_report {k : Nat} {u : SX} {v : SY} (I : i_Rel k u v) (hk : k + 3 ≤ 1539) (v1 : Int32) (v2 : Int32) : wpX_report (fun r => wpY_report (fun r' => r' = r ∧ i_Rel (k + 3) u v) v v1 v2) u v1 v2 := by
  refine i_el (G := fun u v => wpX_report (fun r => wpY_report (fun r' => r' = r ∧ i_Rel (k + 3) u v) v v1 v2) u v1 v2) I ?_
  intro cs cl cm n h L st cn K P N Lv S O B oc nd tg bs en dn et bi f_grown f_runningEngine f_ending f_callCount f_closureCount f_frame f_waitingCount a_kinds a_operands a_parents a_places a_children a_levels a_nests a_scopes a_nodeLambdas a_lambdaNodes a_liveNodes a_nodeFlows a_paramFlows a_entries a_frameReturns a_closureLambdas a_records a_calledSets a_closureValues a_frameValues a_waiting b_s b_p b_live b_fn b_val hI I0
  have main : ∀ e : Nat, e < 2 → ((v2 < 0 → wpY_report (fun r' => r' = 0 ∧ i_Rel (k + 3) ((nI cs), (nI cl), (nI cm), (nI n), (nI h), (nI L), (nI st), f_grown, (nI cn), f_runningEngine, f_ending, f_callCount, f_closureCount, f_frame, f_waitingCount, a_kinds, a_operands, a_parents, a_places, a_children, a_levels, a_nests, a_scopes, a_nodeLambdas, a_lambdaNodes, a_liveNodes, a_nodeFlows, a_paramFlows, (rn_F oc), (rn_F nd), (rn_F tg), (rn_F bs), a_entries, a_frameReturns, a_frameValues, a_closureLambdas, a_closureValues, a_waiting, a_records, a_calledSets) ((nI cs), (nI cl), (nI cm), (nI n), (nI h), (nI st), a_kinds, a_operands, a_parents, b_s, b_p, a_records, a_calledSets, b_live, (rn_F dn), b_fn, b_val, (rn_F et), (rn_F bi))) ((nI cs), (nI cl), (nI cm), (nI n), (nI h), (nI st), a_kinds, a_operands, a_parents, b_s, b_p, a_records, a_calledSets, b_live, (rn_F dn), b_fn, b_val, (rn_F et), (rn_F bi)) (nI e) v2) ∧ (¬ v2 < 0 → ((5 ≤ v2 → wpY_report (fun r' => r' = 0 ∧ i_Rel (k + 3) ((nI cs), (nI cl), (nI cm), (nI n), (nI h), (nI L), (nI st), f_grown, (nI cn), f_runningEngine, f_ending, f_callCount, f_closureCount, f_frame, f_waitingCount, a_kinds, a_operands, a_parents, a_places, a_children, a_levels, a_nests, a_scopes, a_nodeLambdas, a_lambdaNodes, a_liveNodes, a_nodeFlows, a_paramFlows, (rn_F oc), (rn_F nd), (rn_F tg), (rn_F bs), a_entries, a_frameReturns, a_frameValues, a_closureLambdas, a_closureValues, a_waiting, a_records, a_calledSets) ((nI cs), (nI cl), (nI cm), (nI n), (nI h), (nI st), a_kinds, a_operands, a_parents, b_s, b_p, a_records, a_calledSets, b_live, (rn_F dn), b_fn, b_val, (rn_F et), (rn_F bi))) ((nI cs), (nI cl), (nI cm), (nI n), (nI h), (nI st), a_kinds, a_operands, a_parents, b_s, b_p, a_records, a_calledSets, b_live, (rn_F dn), b_fn, b_val, (rn_F et), (rn_F bi)) (nI e) v2) ∧ (¬ 5 ≤ v2 → wpX_hasRun (fun r_5 => ((r_5 = 0 → wpY_report (fun r' => r' = 0 ∧ i_Rel (k + 3) ((nI cs), (nI cl), (nI cm), (nI n), (nI h), (nI L), (nI st), f_grown, (nI cn), f_runningEngine, f_ending, f_callCount, f_closureCount, f_frame, f_waitingCount, a_kinds, a_operands, a_parents, a_places, a_children, a_levels, a_nests, a_scopes, a_nodeLambdas, a_lambdaNodes, a_liveNodes, a_nodeFlows, a_paramFlows, (rn_F oc), (rn_F nd), (rn_F tg), (rn_F bs), a_entries, a_frameReturns, a_frameValues, a_closureLambdas, a_closureValues, a_waiting, a_records, a_calledSets) ((nI cs), (nI cl), (nI cm), (nI n), (nI h), (nI st), a_kinds, a_operands, a_parents, b_s, b_p, a_records, a_calledSets, b_live, (rn_F dn), b_fn, b_val, (rn_F et), (rn_F bi))) ((nI cs), (nI cl), (nI cm), (nI n), (nI h), (nI st), a_kinds, a_operands, a_parents, b_s, b_p, a_records, a_calledSets, b_live, (rn_F dn), b_fn, b_val, (rn_F et), (rn_F bi)) (nI e) v2) ∧ (¬ r_5 = 0 → (vp_in (nI e * 5 + v2) 10 ∧ wpY_report (fun r' => r' = a_records (nI e * 5 + v2).toNatClampNeg ∧ i_Rel (k + 3) ((nI cs), (nI cl), (nI cm), (nI n), (nI h), (nI L), (nI st), f_grown, (nI cn), f_runningEngine, f_ending, f_callCount, f_closureCount, f_frame, f_waitingCount, a_kinds, a_operands, a_parents, a_places, a_children, a_levels, a_nests, a_scopes, a_nodeLambdas, a_lambdaNodes, a_liveNodes, a_nodeFlows, a_paramFlows, (rn_F oc), (rn_F nd), (rn_F tg), (rn_F bs), a_entries, a_frameReturns, a_frameValues, a_closureLambdas, a_closureValues, a_waiting, a_records, a_calledSets) ((nI cs), (nI cl), (nI cm), (nI n), (nI h), (nI st), a_kinds, a_operands, a_parents, b_s, b_p, a_records, a_calledSets, b_live, (rn_F dn), b_fn, b_val, (rn_F et), (rn_F bi))) ((nI cs), (nI cl), (nI cm), (nI n), (nI h), (nI st), a_kinds, a_operands, a_parents, b_s, b_p, a_records, a_calledSets, b_live, (rn_F dn), b_fn, b_val, (rn_F et), (rn_F bi)) (nI e) v2)))) ((nI cs), (nI cl), (nI cm), (nI n), (nI h), (nI L), (nI st), f_grown, (nI cn), f_runningEngine, f_ending, f_callCount, f_closureCount, f_frame, f_waitingCount, a_kinds, a_operands, a_parents, a_places, a_children, a_levels, a_nests, a_scopes, a_nodeLambdas, a_lambdaNodes, a_liveNodes, a_nodeFlows, a_paramFlows, (rn_F oc), (rn_F nd), (rn_F tg), (rn_F bs), a_entries, a_frameReturns, a_frameValues, a_closureLambdas, a_closureValues, a_waiting, a_records, a_calledSets) (nI e))))) := fun e he => by
    have p0 : ¬ nI e < 0 := nI_pos (by omega)
    have p1 : ¬ 1 < nI e := nI_nlt (b := e) (a := 1) (by omega) (by decide)
    have i5 : vp_in (nI e * 5) 10 := by
      rw [show nI e * 5 = nI (e * 5) from pk_mul e 5]
      exact vp_in_nI (by omega) (by omega)
    refine br_c (fun z => br_f p0 (br_f p1 (br_t z ⟨rfl, I0⟩))) (fun z => br_c (fun y => br_f p0 (br_f p1 (br_f z (br_t ((ez_5 _).mp y) ⟨rfl, I0⟩)))) (fun y => ?_))
    have y' : ¬ 4 < v2 := fun w => y ((ez_5 _).mpr w)
    have iv : vp_in (nI e * 5 + v2) 10 := by
      obtain ⟨j, j1, rfl⟩ := nI_of z
      have j2 : j < 5 := by
        rcases Nat.lt_or_ge j 5 with q | q
        · exact q
        · exact absurd (nI_le (a := 5) q j1) y
      rw [show nI e * 5 = nI (e * 5) from pk_mul e 5, nI_add]
      exact vp_in_nI (by omega) (by omega)
    refine ⟨i5, br_c (fun w => ?_) (fun w => ?_)⟩
    · exact br_t rfl (br_f p0 (br_f p1 (br_f z (br_f y' ⟨i5, br_t w ⟨rfl, I0⟩⟩))))
    · exact br_f (by decide) ⟨iv, br_f p0 (br_f p1 (br_f z (br_f y' ⟨i5, br_f w ⟨iv, rfl, I0⟩⟩)))⟩
  rcases ez_e v1 with rfl | rfl | ⟨a, b, c⟩
  · exact br_t rfl (br_f (by decide) (main 0 (by decide)))
  · exact br_f (by decide) (br_t rfl (br_f (by decide) (main 1 (by decide))))
  · refine br_f a (br_f b (br_t rfl ?_))
    rcases c with c | ⟨c, d⟩
    · exact br_t c ⟨rfl, I0⟩
    · exact br_f c (br_t d ⟨rfl, I0⟩)
