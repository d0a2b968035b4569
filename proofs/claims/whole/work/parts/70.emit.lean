/-! ===== the class: emission ===== -/
theorem xe_n : ∀ m, m < 48 → (nI m ^^^ (-1)) < 0 ∧ (nI m ^^^ (-1)) ^^^ (-1) = nI m := by decide +kernel
def xe_c (c : Sum Nat Nat) : Int32 := match c with
  | .inl m => nI m
  | .inr m => nI m ^^^ (-1)
theorem xe_inj {a b : Nat} (ha : a < 48) (hb : b < 48) (h : nI a ^^^ (-1) = nI b ^^^ (-1)) : a = b := by
  have h1 := (xe_n a ha).2
  rw [h, (xe_n b hb).2] at h1
  exact ((nI_eq (by omega) (by omega)).mp h1).symm
theorem rn_at (g : Nat → Nat) {j : Nat} (h : j < 2 ^ 31) : rn_F g (nI j).toNatClampNeg = nI (g j) := by
  rw [nI_clamp h]; rfl
section
variable {f_cellLimit f_callLimit f_closureLimit f_nodes f_holes f_lambdas f_stageReached f_grown f_codeLength f_runningEngine f_ending f_callCount f_closureCount f_frame f_waitingCount : Int32} {a_kinds a_operands a_parents a_places a_children a_levels a_nests a_scopes a_nodeLambdas a_lambdaNodes a_liveNodes a_nodeFlows a_paramFlows a_codeOps a_codeNodes a_codeTargets a_branchSpots a_entries a_frameReturns a_closureLambdas a_records a_calledSets : Nat → Int32} {a_closureValues a_frameValues a_waiting : Nat → Int64}
variable {cs n L : Nat} {K P N Lv S O B : Nat → Nat} {t : so_S} {oc nd tg bs : Nat → Nat} {z : Nat}
theorem xx_emit {post : SX → Prop} {op m : Nat} (hz : z < 113) (h : post (f_cellLimit, f_callLimit, f_closureLimit, f_nodes, f_holes, f_lambdas, f_stageReached, f_grown, (nI (z + 1)), f_runningEngine, f_ending, f_callCount, f_closureCount, f_frame, f_waitingCount, a_kinds, a_operands, a_parents, a_places, a_children, a_levels, a_nests, a_scopes, a_nodeLambdas, a_lambdaNodes, a_liveNodes, a_nodeFlows, a_paramFlows, (rn_F (tr_put oc z op)), (rn_F (tr_put nd z m)), a_codeTargets, a_branchSpots, a_entries, a_frameReturns, a_frameValues, a_closureLambdas, a_closureValues, a_waiting, a_records, a_calledSets)) : wpX_emit post (f_cellLimit, f_callLimit, f_closureLimit, f_nodes, f_holes, f_lambdas, f_stageReached, f_grown, (nI z), f_runningEngine, f_ending, f_callCount, f_closureCount, f_frame, f_waitingCount, a_kinds, a_operands, a_parents, a_places, a_children, a_levels, a_nests, a_scopes, a_nodeLambdas, a_lambdaNodes, a_liveNodes, a_nodeFlows, a_paramFlows, (rn_F oc), (rn_F nd), a_codeTargets, a_branchSpots, a_entries, a_frameReturns, a_frameValues, a_closureLambdas, a_closureValues, a_waiting, a_records, a_calledSets) (nI op) (nI m) := by
  have v : vp_in (nI z) 113 := vp_in_nI hz (by omega)
  have hc := nI_clamp (n := z) (by omega)
  refine ⟨v, nm_r (by rw [hc, rn_put]) ⟨v, nm_r (by rw [hc, rn_put]) (nm_r (nI_1 z) h)⟩⟩
theorem xx_before {post : Int32 → SX → Prop} {m : Nat} (A : re_A cs n 0 L K P N Lv S O B) (XT : re_X n K P N Lv S O B a_kinds a_operands a_parents a_places a_children a_levels a_nests a_scopes a_nodeLambdas a_lambdaNodes) (hm : m < n) (hz : z < 113)
    (h : K m ≤ 2 → post (nI m ^^^ (-1)) (f_cellLimit, f_callLimit, f_closureLimit, f_nodes, f_holes, f_lambdas, f_stageReached, f_grown, (nI (z + 1)), f_runningEngine, f_ending, f_callCount, f_closureCount, f_frame, f_waitingCount, a_kinds, a_operands, a_parents, a_places, a_children, a_levels, a_nests, a_scopes, a_nodeLambdas, a_lambdaNodes, a_liveNodes, a_nodeFlows, a_paramFlows, (rn_F (tr_put oc z (if K m = 0 then 1 else if K m = 1 then 0 else 2))), (rn_F (tr_put nd z m)), a_codeTargets, a_branchSpots, a_entries, a_frameReturns, a_frameValues, a_closureLambdas, a_closureValues, a_waiting, a_records, a_calledSets)) (h3 : 3 ≤ K m → post (nI (m + 1)) (f_cellLimit, f_callLimit, f_closureLimit, f_nodes, f_holes, f_lambdas, f_stageReached, f_grown, (nI z), f_runningEngine, f_ending, f_callCount, f_closureCount, f_frame, f_waitingCount, a_kinds, a_operands, a_parents, a_places, a_children, a_levels, a_nests, a_scopes, a_nodeLambdas, a_lambdaNodes, a_liveNodes, a_nodeFlows, a_paramFlows, (rn_F oc), (rn_F nd), a_codeTargets, a_branchSpots, a_entries, a_frameReturns, a_frameValues, a_closureLambdas, a_closureValues, a_waiting, a_records, a_calledSets)) :
    wpX_emitBefore post (f_cellLimit, f_callLimit, f_closureLimit, f_nodes, f_holes, f_lambdas, f_stageReached, f_grown, (nI z), f_runningEngine, f_ending, f_callCount, f_closureCount, f_frame, f_waitingCount, a_kinds, a_operands, a_parents, a_places, a_children, a_levels, a_nests, a_scopes, a_nodeLambdas, a_lambdaNodes, a_liveNodes, a_nodeFlows, a_paramFlows, (rn_F oc), (rn_F nd), a_codeTargets, a_branchSpots, a_entries, a_frameReturns, a_frameValues, a_closureLambdas, a_closureValues, a_waiting, a_records, a_calledSets) (nI m) := by
  have hn : n ≤ 48 := by have := A.2.2.1; have := A.2.2.2.1; omega
  have k6 := (A.2.2.2.2.2.2.2.2.2.1 m hm).1
  have hcm := nI_clamp (n := m) (by omega)
  refine ⟨vp_in_nI (by omega) (by omega), ?_⟩
  rw [hcm]
  refine nm_r (XT.1 m hm) (br_f (nI_pos (by omega)) ?_)
  by_cases k : 3 ≤ K m
  · obtain ⟨r1, r2, _⟩ := re_kid0 A XT hm (by omega)
    refine br_t (nI_lt (a := 2) (by omega) (by omega)) (xx_childAt (k := 0) (by omega) (by omega) ?_)
    rw [r2]
    exact h3 k
  · refine br_f (nI_nlt (a := 2) (by omega) (by decide)) ?_
    have hh := h (by omega)
    have hc : K m = 0 ∨ K m = 1 ∨ K m = 2 := by omega
    rcases hc with e | e | e
    · rw [e, if_pos rfl] at hh
      rw [e]
      exact br_t rfl (xx_emit (op := 1) hz hh)
    · rw [e, if_neg (by decide), if_pos rfl] at hh
      rw [e]
      exact br_f (by decide) (br_t rfl (xx_emit (op := 0) hz hh))
    · rw [e, if_neg (by decide), if_neg (by decide)] at hh
      rw [e]
      exact br_f (by decide) (br_f (by decide) (br_t rfl (xx_emit (op := 2) hz hh)))
/-- a call's instruction -/
theorem xx_emitCall {post : SX → Prop} {m : Nat} (A : re_A cs n 0 L K P N Lv S O B) (XT : re_X n K P N Lv S O B a_kinds a_operands a_parents a_places a_children a_levels a_nests a_scopes a_nodeLambdas a_lambdaNodes) (hm : m < n) (k3 : K m = 3) (hz : z < 113) (R : so_R n L t) (X : so_X n L t a_liveNodes a_nodeFlows a_paramFlows)
    (h : post (f_cellLimit, f_callLimit, f_closureLimit, f_nodes, f_holes, f_lambdas, f_stageReached, f_grown, (nI (z + 1)), f_runningEngine, f_ending, f_callCount, f_closureCount, f_frame, f_waitingCount, a_kinds, a_operands, a_parents, a_places, a_children, a_levels, a_nests, a_scopes, a_nodeLambdas, a_lambdaNodes, a_liveNodes, a_nodeFlows, a_paramFlows, (rn_F (tr_put oc z (cm_sk (tr_e P n) t m))), (rn_F (tr_put nd z m)), a_codeTargets, a_branchSpots, a_entries, a_frameReturns, a_frameValues, a_closureLambdas, a_closureValues, a_waiting, a_records, a_calledSets)) :
    wpX_emitCall post (f_cellLimit, f_callLimit, f_closureLimit, f_nodes, f_holes, f_lambdas, f_stageReached, f_grown, (nI z), f_runningEngine, f_ending, f_callCount, f_closureCount, f_frame, f_waitingCount, a_kinds, a_operands, a_parents, a_places, a_children, a_levels, a_nests, a_scopes, a_nodeLambdas, a_lambdaNodes, a_liveNodes, a_nodeFlows, a_paramFlows, (rn_F oc), (rn_F nd), a_codeTargets, a_branchSpots, a_entries, a_frameReturns, a_frameValues, a_closureLambdas, a_closureValues, a_waiting, a_records, a_calledSets) (nI m) := by
  unfold wpX_emitCall
  refine xx_siteOf A XT hm R X ?_
  unfold cm_sk at h
  unfold si_c
  rw [if_pos k3]
  by_cases z0 : t.1 m = 0
  · rw [if_pos z0]
    rw [if_pos (Or.inl z0)] at h
    exact br_f (by decide) (br_f (by decide) (xx_emit (op := 8) hz h))
  · rw [if_neg z0]
    by_cases z1 : t.2.1 (m + 1) % 65536 = 0 ∨ t.2.1 (tr_e P n (m + 1)) = 0
    · rw [if_pos z1]
      rw [if_pos (Or.inr z1)] at h
      exact br_f (by decide) (br_f (by decide) (xx_emit (op := 8) hz h))
    · rw [if_neg z1]
      rw [if_neg (by rintro (q | q); exact z0 q; exact z1 q)] at h
      by_cases z2 : t.2.1 (m + 1) &&& (t.2.1 (m + 1) - 1) = 0
      · rw [if_pos z2]
        rw [if_pos z2] at h
        exact br_t (by decide) (xx_emit (op := 6) hz h)
      · rw [if_neg z2]
        rw [if_neg z2] at h
        exact br_f (by decide) (br_t (by decide) (xx_emit (op := 7) hz h))
/-- behind a child of a node that is no IF0 -/
theorem xx_after {post : Int32 → SX → Prop} {m : Nat} (A : re_A cs n 0 L K P N Lv S O B) (XT : re_X n K P N Lv S O B a_kinds a_operands a_parents a_places a_children a_levels a_nests a_scopes a_nodeLambdas a_lambdaNodes) (hm : m < n) (k3 : 3 ≤ K m) (k6 : K m ≠ 6) (R : so_R n L t) (X : so_X n L t a_liveNodes a_nodeFlows a_paramFlows) :
    (post (nI (tr_e P n (m + 1))) (f_cellLimit, f_callLimit, f_closureLimit, f_nodes, f_holes, f_lambdas, f_stageReached, f_grown, (nI z), f_runningEngine, f_ending, f_callCount, f_closureCount, f_frame, f_waitingCount, a_kinds, a_operands, a_parents, a_places, a_children, a_levels, a_nests, a_scopes, a_nodeLambdas, a_lambdaNodes, a_liveNodes, a_nodeFlows, a_paramFlows, (rn_F oc), (rn_F nd), a_codeTargets, a_branchSpots, a_entries, a_frameReturns, a_frameValues, a_closureLambdas, a_closureValues, a_waiting, a_records, a_calledSets) → wpX_emitAfter post (f_cellLimit, f_callLimit, f_closureLimit, f_nodes, f_holes, f_lambdas, f_stageReached, f_grown, (nI z), f_runningEngine, f_ending, f_callCount, f_closureCount, f_frame, f_waitingCount, a_kinds, a_operands, a_parents, a_places, a_children, a_levels, a_nests, a_scopes, a_nodeLambdas, a_lambdaNodes, a_liveNodes, a_nodeFlows, a_paramFlows, (rn_F oc), (rn_F nd), a_codeTargets, a_branchSpots, a_entries, a_frameReturns, a_frameValues, a_closureLambdas, a_closureValues, a_waiting, a_records, a_calledSets) (nI (m + 1))) ∧
    (z < 113 → post (nI m ^^^ (-1)) (f_cellLimit, f_callLimit, f_closureLimit, f_nodes, f_holes, f_lambdas, f_stageReached, f_grown, (nI (z + 1)), f_runningEngine, f_ending, f_callCount, f_closureCount, f_frame, f_waitingCount, a_kinds, a_operands, a_parents, a_places, a_children, a_levels, a_nests, a_scopes, a_nodeLambdas, a_lambdaNodes, a_liveNodes, a_nodeFlows, a_paramFlows, (rn_F (tr_put oc z (if K m = 3 then cm_sk (tr_e P n) t m else 3))), (rn_F (tr_put nd z m)), a_codeTargets, a_branchSpots, a_entries, a_frameReturns, a_frameValues, a_closureLambdas, a_closureValues, a_waiting, a_records, a_calledSets) → wpX_emitAfter post (f_cellLimit, f_callLimit, f_closureLimit, f_nodes, f_holes, f_lambdas, f_stageReached, f_grown, (nI z), f_runningEngine, f_ending, f_callCount, f_closureCount, f_frame, f_waitingCount, a_kinds, a_operands, a_parents, a_places, a_children, a_levels, a_nests, a_scopes, a_nodeLambdas, a_lambdaNodes, a_liveNodes, a_nodeFlows, a_paramFlows, (rn_F oc), (rn_F nd), a_codeTargets, a_branchSpots, a_entries, a_frameReturns, a_frameValues, a_closureLambdas, a_closureValues, a_waiting, a_records, a_calledSets) (nI (tr_e P n (m + 1)))) := by
  have hn : n ≤ 48 := by have := A.2.2.1; have := A.2.2.2.1; omega
  have hk6 := (A.2.2.2.2.2.2.2.2.2.1 m hm).1
  obtain ⟨r1, r2, r3, r4⟩ := re_kid0 A XT hm (by omega)
  obtain ⟨s1, s2, s3, s4⟩ := re_kid1 A XT hm (by omega)
  have vm : vp_in (nI m) 48 := vp_in_nI (by omega) (by omega)
  have hcm := nI_clamp (n := m) (by omega)
  have n6 : ¬ nI (K m) = 6 := fun w => k6 ((nI_eq (b := 6) (by omega) (by decide)).mp w)
  refine ⟨fun hp => ?_, fun hz hp => ?_⟩
  · have hc1 := nI_clamp (n := m + 1) (by omega)
    have v1 : vp_in (nI (m + 1)) 48 := vp_in_nI (by omega) (by omega)
    refine ⟨v1, ?_⟩
    rw [hc1]
    refine nm_r r3 ⟨vm, ?_⟩
    rw [hcm, XT.1 m hm, r4]
    refine br_f n6 ⟨v1, br_t rfl (xx_childAt (k := 1) (by omega) (by omega) ?_)⟩
    rw [s2]
    exact hp
  · have hc1 := nI_clamp (n := tr_e P n (m + 1)) (by omega)
    have v1 : vp_in (nI (tr_e P n (m + 1))) 48 := vp_in_nI (by omega) (by omega)
    refine ⟨v1, ?_⟩
    rw [hc1]
    refine nm_r s3 ⟨vm, ?_⟩
    rw [hcm, XT.1 m hm, s4]
    refine br_f n6 ⟨v1, br_f (by decide) ⟨vm, ?_⟩⟩
    by_cases q : K m = 3
    · rw [if_pos q] at hp
      exact br_t (by rw [q]; rfl) (xx_emitCall A XT hm q hz R X hp)
    · rw [if_neg q] at hp
      exact br_f (fun w => q ((nI_eq (b := 3) (by omega) (by decide)).mp w)) (xx_emit (op := 3) hz hp)
/-- behind a child of an IF0 -/
theorem xx_after6 {post : Int32 → SX → Prop} {m : Nat} (A : re_A cs n 0 L K P N Lv S O B) (XT : re_X n K P N Lv S O B a_kinds a_operands a_parents a_places a_children a_levels a_nests a_scopes a_nodeLambdas a_lambdaNodes) (hm : m < n) (k6 : K m = 6) (R : so_R n L t) (X : so_X n L t a_liveNodes a_nodeFlows a_paramFlows) :
    (z < 113 → t.1 (tr_e P n (m + 1)) ≠ 1 → post (nI m ^^^ (-1)) (f_cellLimit, f_callLimit, f_closureLimit, f_nodes, f_holes, f_lambdas, f_stageReached, f_grown, (nI (z + 1)), f_runningEngine, f_ending, f_callCount, f_closureCount, f_frame, f_waitingCount, a_kinds, a_operands, a_parents, a_places, a_children, a_levels, a_nests, a_scopes, a_nodeLambdas, a_lambdaNodes, a_liveNodes, a_nodeFlows, a_paramFlows, (rn_F (tr_put oc z 8)), (rn_F (tr_put nd z m)), (rn_F tg), (rn_F bs), a_entries, a_frameReturns, a_frameValues, a_closureLambdas, a_closureValues, a_waiting, a_records, a_calledSets) → wpX_emitAfter post (f_cellLimit, f_callLimit, f_closureLimit, f_nodes, f_holes, f_lambdas, f_stageReached, f_grown, (nI z), f_runningEngine, f_ending, f_callCount, f_closureCount, f_frame, f_waitingCount, a_kinds, a_operands, a_parents, a_places, a_children, a_levels, a_nests, a_scopes, a_nodeLambdas, a_lambdaNodes, a_liveNodes, a_nodeFlows, a_paramFlows, (rn_F oc), (rn_F nd), (rn_F tg), (rn_F bs), a_entries, a_frameReturns, a_frameValues, a_closureLambdas, a_closureValues, a_waiting, a_records, a_calledSets) (nI (m + 1))) ∧
    (z < 113 → t.1 (tr_e P n (m + 1)) = 1 → post (nI (tr_e P n (m + 1))) (f_cellLimit, f_callLimit, f_closureLimit, f_nodes, f_holes, f_lambdas, f_stageReached, f_grown, (nI (z + 1)), f_runningEngine, f_ending, f_callCount, f_closureCount, f_frame, f_waitingCount, a_kinds, a_operands, a_parents, a_places, a_children, a_levels, a_nests, a_scopes, a_nodeLambdas, a_lambdaNodes, a_liveNodes, a_nodeFlows, a_paramFlows, (rn_F (tr_put oc z 4)), (rn_F (tr_put nd z m)), (rn_F tg), (rn_F (tr_put bs m z)), a_entries, a_frameReturns, a_frameValues, a_closureLambdas, a_closureValues, a_waiting, a_records, a_calledSets) → wpX_emitAfter post (f_cellLimit, f_callLimit, f_closureLimit, f_nodes, f_holes, f_lambdas, f_stageReached, f_grown, (nI z), f_runningEngine, f_ending, f_callCount, f_closureCount, f_frame, f_waitingCount, a_kinds, a_operands, a_parents, a_places, a_children, a_levels, a_nests, a_scopes, a_nodeLambdas, a_lambdaNodes, a_liveNodes, a_nodeFlows, a_paramFlows, (rn_F oc), (rn_F nd), (rn_F tg), (rn_F bs), a_entries, a_frameReturns, a_frameValues, a_closureLambdas, a_closureValues, a_waiting, a_records, a_calledSets) (nI (m + 1))) ∧
    (z < 113 → bs m < z → post (nI (tr_e P n (tr_e P n (m + 1)))) (f_cellLimit, f_callLimit, f_closureLimit, f_nodes, f_holes, f_lambdas, f_stageReached, f_grown, (nI (z + 1)), f_runningEngine, f_ending, f_callCount, f_closureCount, f_frame, f_waitingCount, a_kinds, a_operands, a_parents, a_places, a_children, a_levels, a_nests, a_scopes, a_nodeLambdas, a_lambdaNodes, a_liveNodes, a_nodeFlows, a_paramFlows, (rn_F (tr_put oc z 5)), (rn_F (tr_put nd z m)), (rn_F (tr_put tg (bs m) (z + 1))), (rn_F bs), a_entries, a_frameReturns, a_frameValues, a_closureLambdas, a_closureValues, a_waiting, a_records, a_calledSets) → wpX_emitAfter post (f_cellLimit, f_callLimit, f_closureLimit, f_nodes, f_holes, f_lambdas, f_stageReached, f_grown, (nI z), f_runningEngine, f_ending, f_callCount, f_closureCount, f_frame, f_waitingCount, a_kinds, a_operands, a_parents, a_places, a_children, a_levels, a_nests, a_scopes, a_nodeLambdas, a_lambdaNodes, a_liveNodes, a_nodeFlows, a_paramFlows, (rn_F oc), (rn_F nd), (rn_F tg), (rn_F bs), a_entries, a_frameReturns, a_frameValues, a_closureLambdas, a_closureValues, a_waiting, a_records, a_calledSets) (nI (tr_e P n (m + 1)))) ∧
    (∀ x, z ≤ 113 → bs m < 113 → tg (bs m) = x + 1 → x < 113 → post (nI m ^^^ (-1)) (f_cellLimit, f_callLimit, f_closureLimit, f_nodes, f_holes, f_lambdas, f_stageReached, f_grown, (nI z), f_runningEngine, f_ending, f_callCount, f_closureCount, f_frame, f_waitingCount, a_kinds, a_operands, a_parents, a_places, a_children, a_levels, a_nests, a_scopes, a_nodeLambdas, a_lambdaNodes, a_liveNodes, a_nodeFlows, a_paramFlows, (rn_F oc), (rn_F nd), (rn_F (tr_put tg x z)), (rn_F bs), a_entries, a_frameReturns, a_frameValues, a_closureLambdas, a_closureValues, a_waiting, a_records, a_calledSets) → wpX_emitAfter post (f_cellLimit, f_callLimit, f_closureLimit, f_nodes, f_holes, f_lambdas, f_stageReached, f_grown, (nI z), f_runningEngine, f_ending, f_callCount, f_closureCount, f_frame, f_waitingCount, a_kinds, a_operands, a_parents, a_places, a_children, a_levels, a_nests, a_scopes, a_nodeLambdas, a_lambdaNodes, a_liveNodes, a_nodeFlows, a_paramFlows, (rn_F oc), (rn_F nd), (rn_F tg), (rn_F bs), a_entries, a_frameReturns, a_frameValues, a_closureLambdas, a_closureValues, a_waiting, a_records, a_calledSets) (nI (tr_e P n (tr_e P n (m + 1))))) := by
  have hn : n ≤ 48 := by have := A.2.2.1; have := A.2.2.2.1; omega
  obtain ⟨r1, r2, r3, r4⟩ := re_kid0 A XT hm (by omega)
  obtain ⟨s1, s2, s3, s4⟩ := re_kid1 A XT hm (by omega)
  obtain ⟨w1, w2, w3, w4⟩ := re_kid2 A XT hm k6
  have vm : vp_in (nI m) 48 := vp_in_nI (by omega) (by omega)
  have hcm := nI_clamp (n := m) (by omega)
  have e6 : nI (K m) = 6 := by rw [k6]; rfl
  have vs : vp_in (nI (tr_e P n (m + 1))) 48 := vp_in_nI (by omega) (by omega)
  have hcs := nI_clamp (n := tr_e P n (m + 1)) (by omega)
  have v1 : vp_in (nI (m + 1)) 48 := vp_in_nI (by omega) (by omega)
  have hc1 := nI_clamp (n := m + 1) (by omega)
  have v2 : vp_in (nI (tr_e P n (tr_e P n (m + 1)))) 48 := vp_in_nI (by omega) (by omega)
  have hc2 := nI_clamp (n := tr_e P n (tr_e P n (m + 1))) (by omega)
  refine ⟨fun hz q hp => ?_, fun hz q hp => ?_, fun hz hb hp => ?_, fun x hz hb ht hx hp => ?_⟩
  · refine ⟨v1, ?_⟩
    rw [hc1]
    refine nm_r r3 ⟨vm, ?_⟩
    rw [hcm, XT.1 m hm, r4]
    refine br_t e6 ⟨v1, br_t rfl (xx_childAt (k := 1) (by omega) (by omega) ?_)⟩
    rw [s2]
    refine ⟨vs, ?_⟩
    rw [hcs, (X.1 _ s1).1]
    have h1 := R.1 (tr_e P n (m + 1))
    have h0 : t.1 (tr_e P n (m + 1)) = 0 := by omega
    rw [h0]
    exact br_t rfl (xx_emit (op := 8) hz hp)
  · refine ⟨v1, ?_⟩
    rw [hc1]
    refine nm_r r3 ⟨vm, ?_⟩
    rw [hcm, XT.1 m hm, r4]
    refine br_t e6 ⟨v1, br_t rfl (xx_childAt (k := 1) (by omega) (by omega) ?_)⟩
    rw [s2]
    refine ⟨vs, ?_⟩
    rw [hcs, (X.1 _ s1).1, q]
    refine br_f (by decide) ⟨vm, nm_r (e' := rn_F (tr_put bs m z)) (by rw [hcm, rn_put]) ?_⟩
    exact xx_emit (op := 4) hz hp
  · refine ⟨vs, ?_⟩
    rw [hcs]
    refine nm_r s3 ⟨vm, ?_⟩
    rw [hcm, XT.1 m hm, s4]
    refine br_t e6 ⟨vs, br_f (by decide) ⟨vm, ?_⟩⟩
    refine nm_r (show rn_F bs (nI m).toNatClampNeg = nI (bs m) from rn_at bs (by omega)) (br_t rfl (xx_emit (op := 5) hz ⟨vp_in_nI (by omega) (by omega), nm_r (e' := rn_F (tr_put tg (bs m) (z + 1))) ?_ (xx_childAt (k := 2) (by omega) (by omega) ?_)⟩))
    · rw [nI_clamp (by omega), rn_put]
    · rw [w2]
      exact hp
  · refine ⟨v2, ?_⟩
    rw [hc2]
    refine nm_r w3 ⟨vm, ?_⟩
    rw [hcm, XT.1 m hm, w4]
    refine br_t e6 ⟨v2, br_f (by decide) ⟨vm, ?_⟩⟩
    refine nm_r (show rn_F bs (nI m).toNatClampNeg = nI (bs m) from rn_at bs (by omega)) (br_f (by decide) ⟨vp_in_nI hb (by omega), ?_⟩)
    have e1 : rn_F tg (nI (bs m)).toNatClampNeg - 1 = nI x := by
      rw [rn_at tg (by omega), ht]
      exact nI_pred x
    rw [e1]
    exact ⟨vp_in_nI hx (by omega), nm_r (by rw [nI_clamp (by omega), rn_put]) hp⟩
end
