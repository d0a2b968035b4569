/-! ===== setNumber, look, live, flow, param, called, put ===== -/
theorem ez_kd {n : Nat} {cs h L : Nat} {K P N Lv S O B : Nat → Nat} {kd od pa pl ch le ne sc nl ln : Nat → Int32} (A : re_A cs n h L K P N Lv S O B) (X : re_X n K P N Lv S O B kd od pa pl ch le ne sc nl ln) : ∀ m, m < n → kd m = nI (K m) ∧ K m ≤ 6 := fun m hm => ⟨X.1 m hm, (A.2.2.2.2.2.2.2.2.2.1 m hm).1⟩
theorem ez_48 {n : Nat} {cs h L : Nat} {K P N Lv S O B : Nat → Nat} (A : re_A cs n h L K P N Lv S O B) : n ≤ 48 ∧ h ≤ 48 ∧ L ≤ 16 := by
  have := A.2.2.1
  have := A.2.2.2.1
  exact ⟨by omega, by omega, A.2.2.2.2.2.1⟩
theorem i_vc_setNumber {k : Nat} {u : SX} {v : SY} (I : i_Rel k u v) (hk : k + 3 ≤ 1539) (v1 : Int32) (v2 : Int32) : wpX_setNumber (fun r u' => wpY_setNumber (fun r' v' => r' = r ∧ i_Rel (k + 3) u' v') v v1 v2) u v1 v2 := by
  refine i_el (G := fun u v => wpX_setNumber (fun r u' => wpY_setNumber (fun r' v' => r' = r ∧ i_Rel (k + 3) u' v') v v1 v2) u v1 v2) I ?_
  intro cs cl cm n h L st cn K P N Lv S O B oc nd tg bs en dn et bi f_grown f_runningEngine f_ending f_callCount f_closureCount f_frame f_waitingCount a_kinds a_operands a_parents a_places a_children a_levels a_nests a_scopes a_nodeLambdas a_lambdaNodes a_liveNodes a_nodeFlows a_paramFlows a_entries a_frameReturns a_closureLambdas a_records a_calledSets a_closureValues a_frameValues a_waiting b_s b_p b_live b_fn b_val hI I0
  obtain ⟨A, X, l1, l2, m1, m2, s, S1, S2⟩ := hI
  obtain ⟨hn, hh, hL⟩ := ez_48 A
  unfold wpX_setNumber
  refine xx_isNode hn (fun z => ?_) (fun j hj e => ?_)
  · refine br_t rfl ?_
    unfold wpY_setNumber
    refine yy_has hn (fun _ => ?_) (fun j hj e => ?_)
    · exact br_t rfl ⟨rfl, I0⟩
    subst e
    rcases z with z | z
    · exact absurd z (nI_pos (by omega))
    · exact absurd z (nI_ge hj (by omega))
  · refine br_f (by decide) ?_
    subst e
    obtain ⟨k1, k2⟩ := ez_kd A X j hj
    have hi : vp_in (nI j) 48 := vp_in_nI (by omega) (by omega)
    have hc := nI_clamp (n := j) (by omega)
    have yn : ∀ {post : Int32 → Prop}, post 1 → wpY_has post ((nI cs), (nI cl), (nI cm), (nI n), (nI h), (nI st), a_kinds, a_operands, a_parents, b_s, b_p, a_records, a_calledSets, b_live, (rn_F dn), b_fn, b_val, (rn_F et), (rn_F bi)) (nI j) := fun hp => yy_has hn (fun z => by
      rcases z with z | z
      · exact absurd z (nI_pos (by omega))
      · exact absurd z (nI_ge hj (by omega))) (fun _ _ _ => hp)
    refine ⟨hi, ?_⟩
    rw [hc]
    by_cases z : K j = 1
    · refine br_t (by rw [k1, z]; rfl) ⟨hi, nm_e (nm_e (nm_e ?_))⟩
      unfold wpY_setNumber
      refine yn ?_
      refine br_f (by decide) ⟨hi, ?_⟩
      rw [hc]
      refine br_t (by rw [k1, z]; rfl) ⟨hi, nm_e (nm_e (nm_e ⟨rfl, ?_⟩))⟩
      refine i_in (K := K) (P := P) (N := N) (Lv := Lv) (S := S) (O := O) (B := B) (en := en) ?_
      exact ⟨A, re_X_num X z, l1, l2, m1, m2, s, S1, S2⟩
    · have ne : ¬ a_kinds j = 1 := fun w => z ((nI_eq (b := 1) (by omega) (by decide)).mp (k1.symm.trans w))
      refine br_f ne ?_
      unfold wpY_setNumber
      refine yn ?_
      refine br_f (by decide) ⟨hi, ?_⟩
      rw [hc]
      exact br_f ne ⟨rfl, I0⟩
theorem i_vc_look {k : Nat} {u : SX} {v : SY} (I : i_Rel k u v) (hk : k + 3 ≤ 1539) (v1 : Int32) (v2 : Int32) : wpX_look (fun r => wpY_look (fun r' => r' = r ∧ i_Rel (k + 3) u v) v v1 v2) u v1 v2 := by
  refine i_el (G := fun u v => wpX_look (fun r => wpY_look (fun r' => r' = r ∧ i_Rel (k + 3) u v) v v1 v2) u v1 v2) I ?_
  intro cs cl cm n h L st cn K P N Lv S O B oc nd tg bs en dn et bi f_grown f_runningEngine f_ending f_callCount f_closureCount f_frame f_waitingCount a_kinds a_operands a_parents a_places a_children a_levels a_nests a_scopes a_nodeLambdas a_lambdaNodes a_liveNodes a_nodeFlows a_paramFlows a_entries a_frameReturns a_closureLambdas a_records a_calledSets a_closureValues a_frameValues a_waiting b_s b_p b_live b_fn b_val hI I0
  obtain ⟨A, X, l1, l2, m1, m2, s, S1, S2⟩ := hI
  obtain ⟨hn, hh, hL⟩ := ez_48 A
  have X' := X
  obtain ⟨x1, x2, x3, x4, x5, x6, x7, x8, x9⟩ := X'
  unfold wpX_look
  refine xx_isNode hn (fun z => ?_) (fun j hj e => ?_)
  · refine br_t rfl ?_
    unfold wpY_look
    refine yy_has hn (fun _ => ?_) (fun j hj e => ?_)
    · exact br_t rfl ⟨rfl, I0⟩
    subst e
    rcases z with z | z
    · exact absurd z (nI_pos (by omega))
    · exact absurd z (nI_ge hj (by omega))
  · refine br_f (by decide) ?_
    subst e
    have hi : vp_in (nI j) 48 := vp_in_nI (by omega) (by omega)
    have hc := nI_clamp (n := j) (by omega)
    have bad : (v2 < 0 ∨ 3 < v2) → wpY_look (fun r' => r' = -1 ∧ i_Rel (k + 3) ((nI cs), (nI cl), (nI cm), (nI n), (nI h), (nI L), (nI st), f_grown, (nI cn), f_runningEngine, f_ending, f_callCount, f_closureCount, f_frame, f_waitingCount, a_kinds, a_operands, a_parents, a_places, a_children, a_levels, a_nests, a_scopes, a_nodeLambdas, a_lambdaNodes, a_liveNodes, a_nodeFlows, a_paramFlows, (rn_F oc), (rn_F nd), (rn_F tg), (rn_F bs), a_entries, a_frameReturns, a_frameValues, a_closureLambdas, a_closureValues, a_waiting, a_records, a_calledSets) ((nI cs), (nI cl), (nI cm), (nI n), (nI h), (nI st), a_kinds, a_operands, a_parents, b_s, b_p, a_records, a_calledSets, b_live, (rn_F dn), b_fn, b_val, (rn_F et), (rn_F bi))) ((nI cs), (nI cl), (nI cm), (nI n), (nI h), (nI st), a_kinds, a_operands, a_parents, b_s, b_p, a_records, a_calledSets, b_live, (rn_F dn), b_fn, b_val, (rn_F et), (rn_F bi)) (nI j) v2 := fun w =>
      yy_look A (ez_kd A X) x4 x2 hj (fun e => by subst e; rcases w with w | w <;> exact absurd w (by decide)) (fun e => by subst e; rcases w with w | w <;> exact absurd w (by decide)) (fun e => by subst e; rcases w with w | w <;> exact absurd w (by decide)) (fun e => by subst e; rcases w with w | w <;> exact absurd w (by decide)) (fun _ => ⟨rfl, I0⟩)
    refine br_c (fun z => bad (Or.inl z)) (fun z => br_c (fun y => bad (Or.inr y)) (fun y => ?_))
    by_cases w0 : v2 = 0
    · subst w0
      refine br_t rfl ⟨hi, ?_⟩
      rw [hc]
      exact yy_look A (ez_kd A X) x4 x2 hj (fun _ => ⟨rfl, I0⟩) (fun e => absurd e (by decide)) (fun e => absurd e (by decide)) (fun e => absurd e (by decide)) (fun e => by rcases e with e | e <;> exact absurd e (by decide))
    refine br_f w0 ?_
    by_cases w1 : v2 = 1
    · subst w1
      refine br_t rfl ⟨hi, ?_⟩
      rw [hc]
      exact yy_look A (ez_kd A X) x4 x2 hj (fun e => absurd e (by decide)) (fun _ => ⟨rfl, I0⟩) (fun e => absurd e (by decide)) (fun e => absurd e (by decide)) (fun e => by rcases e with e | e <;> exact absurd e (by decide))
    refine br_f w1 ?_
    by_cases w2 : v2 = 2
    · subst w2
      refine br_t rfl ⟨hi, ?_⟩
      rw [hc]
      exact yy_look A (ez_kd A X) x4 x2 hj (fun e => absurd e (by decide)) (fun e => absurd e (by decide)) (fun _ => ⟨rfl, I0⟩) (fun e => absurd e (by decide)) (fun e => by rcases e with e | e <;> exact absurd e (by decide))
    refine br_f w2 ?_
    by_cases w3 : v2 = 3
    · subst w3
      refine br_t rfl ⟨hi, ?_⟩
      rw [hc]
      refine yy_look A (ez_kd A X) x4 x2 hj (fun e => absurd e (by decide)) (fun e => absurd e (by decide)) (fun e => absurd e (by decide)) (fun _ => ⟨fun q => ⟨?_, I0⟩, fun q => ⟨?_, I0⟩, fun q r => ⟨?_, I0⟩⟩) (fun e => by rcases e with e | e <;> exact absurd e (by decide))
      · exact ((x8 j hj).1 q).symm
      · exact ((x8 j hj).2.1 q).symm
      · exact ((x8 j hj).2.2 q r).symm
    · exact br_f w3 trivial
theorem ez_st {st : Nat} (s : st ≤ 2) : (nI st < 1 ↔ st = 0) ∧ (nI st ≤ 0 ↔ st = 0) := by
  have hc : st = 0 ∨ st = 1 ∨ st = 2 := by omega
  rcases hc with rfl | rfl | rfl
  · exact ⟨⟨fun _ => rfl, fun _ => by decide⟩, ⟨fun _ => rfl, fun _ => by decide⟩⟩
  · exact ⟨⟨fun z => absurd z (by decide), fun z => by omega⟩, ⟨fun z => absurd z (by decide), fun z => by omega⟩⟩
  · exact ⟨⟨fun z => absurd z (by decide), fun z => by omega⟩, ⟨fun z => absurd z (by decide), fun z => by omega⟩⟩
section
variable {f_cellLimit f_callLimit f_closureLimit f_nodes f_holes f_lambdas f_stageReached f_grown f_codeLength f_runningEngine f_ending f_callCount f_closureCount f_frame f_waitingCount : Int32} {a_kinds a_operands a_parents a_places a_children a_levels a_nests a_scopes a_nodeLambdas a_lambdaNodes a_liveNodes a_nodeFlows a_paramFlows a_codeOps a_codeNodes a_codeTargets a_branchSpots a_entries a_frameReturns a_closureLambdas a_records a_calledSets : Nat → Int32} {a_closureValues a_frameValues a_waiting : Nat → Int64}
theorem xx_isSolvedNode {post : Int32 → Prop} {n st : Nat} {x : Int32} (hn : n ≤ 48) (s : st ≤ 2) (h0 : st = 0 ∨ (1 ≤ st ∧ (x < 0 ∨ nI n ≤ x)) → post 0) (h1 : ∀ j, 1 ≤ st → j < n → x = nI j → post 1) : wpX_isSolvedNode post (f_cellLimit, f_callLimit, f_closureLimit, (nI n), f_holes, f_lambdas, (nI st), f_grown, f_codeLength, f_runningEngine, f_ending, f_callCount, f_closureCount, f_frame, f_waitingCount, a_kinds, a_operands, a_parents, a_places, a_children, a_levels, a_nests, a_scopes, a_nodeLambdas, a_lambdaNodes, a_liveNodes, a_nodeFlows, a_paramFlows, a_codeOps, a_codeNodes, a_codeTargets, a_branchSpots, a_entries, a_frameReturns, a_frameValues, a_closureLambdas, a_closureValues, a_waiting, a_records, a_calledSets) x := by
  by_cases z : st = 0
  · exact br_t ((ez_st s).1.mpr z) (h0 (Or.inl z))
  · refine br_f (fun w => z ((ez_st s).1.mp w)) (xx_isNode hn (fun w => br_t rfl (h0 (Or.inr ⟨by omega, w⟩))) (fun j hj e => br_f (by decide) (h1 j (by omega) hj e)))
theorem xx_isSolvedLambda {post : Int32 → Prop} {L st : Nat} {x : Int32} (hL : L ≤ 16) (s : st ≤ 2) (h0 : st = 0 ∨ (1 ≤ st ∧ (x < 0 ∨ nI L ≤ x)) → post 0) (h1 : ∀ j, 1 ≤ st → j < L → x = nI j → post 1) : wpX_isSolvedLambda post (f_cellLimit, f_callLimit, f_closureLimit, f_nodes, f_holes, (nI L), (nI st), f_grown, f_codeLength, f_runningEngine, f_ending, f_callCount, f_closureCount, f_frame, f_waitingCount, a_kinds, a_operands, a_parents, a_places, a_children, a_levels, a_nests, a_scopes, a_nodeLambdas, a_lambdaNodes, a_liveNodes, a_nodeFlows, a_paramFlows, a_codeOps, a_codeNodes, a_codeTargets, a_branchSpots, a_entries, a_frameReturns, a_frameValues, a_closureLambdas, a_closureValues, a_waiting, a_records, a_calledSets) x := by
  by_cases z : st = 0
  · exact br_t ((ez_st s).1.mpr z) (h0 (Or.inl z))
  · refine br_f (fun w => z ((ez_st s).1.mp w)) (br_c (fun y => h0 (Or.inr ⟨by omega, Or.inl y⟩)) (fun y => br_c (fun w => h0 (Or.inr ⟨by omega, Or.inr w⟩)) (fun w => ?_)))
    rcases pk_ix x (n := L) (by omega) with q | q | ⟨j, q1, q2⟩
    · exact absurd q y
    · exact absurd q w
    · exact h1 j (by omega) q1 q2
end
theorem i_vc_live {k : Nat} {u : SX} {v : SY} (I : i_Rel k u v) (hk : k + 3 ≤ 1539) (v1 : Int32) : wpX_live (fun r => wpY_live (fun r' => r' = r ∧ i_Rel (k + 3) u v) v v1) u v1 := by
  refine i_el (G := fun u v => wpX_live (fun r => wpY_live (fun r' => r' = r ∧ i_Rel (k + 3) u v) v v1) u v1) I ?_
  intro cs cl cm n h L st cn K P N Lv S O B oc nd tg bs en dn et bi f_grown f_runningEngine f_ending f_callCount f_closureCount f_frame f_waitingCount a_kinds a_operands a_parents a_places a_children a_levels a_nests a_scopes a_nodeLambdas a_lambdaNodes a_liveNodes a_nodeFlows a_paramFlows a_entries a_frameReturns a_closureLambdas a_records a_calledSets a_closureValues a_frameValues a_waiting b_s b_p b_live b_fn b_val hI I0
  obtain ⟨A, X, l1, l2, m1, m2, s, S1, S2⟩ := hI
  obtain ⟨hn, hh, hL⟩ := ez_48 A
  unfold wpX_live
  refine xx_isSolvedNode hn s (fun z => ?_) (fun j h1 hj e => ?_)
  · refine br_t rfl ?_
    rcases z with z | ⟨z, y⟩
    · exact br_t ((ez_st s).2.mpr z) ⟨rfl, I0⟩
    · refine br_f (fun w => by have := (ez_st s).2.mp w; omega) (yy_has hn (fun _ => br_t rfl ⟨rfl, I0⟩) (fun j hj e => ?_))
      subst e
      rcases y with y | y
      · exact absurd y (nI_pos (by omega))
      · exact absurd y (nI_ge hj (by omega))
  · refine br_f (by decide) ?_
    subst e
    obtain ⟨_, a1, a2⟩ := S1 h1
    have hi : vp_in (nI j) 48 := vp_in_nI (by omega) (by omega)
    have hc := nI_clamp (n := j) (by omega)
    have eq : b_live j = a_liveNodes j := (a2.1 j hj).1.trans (a1.1 j hj).1.symm
    have yn : ∀ {post : Int32 → Prop}, post 1 → wpY_has post ((nI cs), (nI cl), (nI cm), (nI n), (nI h), (nI st), a_kinds, a_operands, a_parents, b_s, b_p, a_records, a_calledSets, b_live, (rn_F dn), b_fn, b_val, (rn_F et), (rn_F bi)) (nI j) := fun hp => yy_has hn (fun z => by
      rcases z with z | z
      · exact absurd z (nI_pos (by omega))
      · exact absurd z (nI_ge hj (by omega))) (fun _ _ _ => hp)
    refine ⟨hi, ?_⟩
    rw [hc]
    refine br_c (fun z => ?_) (fun z => ?_)
    · refine br_f (fun w => by have := (ez_st s).2.mp w; omega) (yn (br_f (by decide) ⟨hi, ?_⟩))
      rw [hc, eq]
      exact br_t z ⟨rfl, I0⟩
    · refine br_f (fun w => by have := (ez_st s).2.mp w; omega) (yn (br_f (by decide) ⟨hi, ?_⟩))
      rw [hc, eq]
      exact br_f z ⟨rfl, I0⟩
theorem i_vc_flow {k : Nat} {u : SX} {v : SY} (I : i_Rel k u v) (hk : k + 3 ≤ 1539) (v1 : Int32) : wpX_flow (fun r => wpY_flow (fun r' => r' = r ∧ i_Rel (k + 3) u v) v v1) u v1 := by
  refine i_el (G := fun u v => wpX_flow (fun r => wpY_flow (fun r' => r' = r ∧ i_Rel (k + 3) u v) v v1) u v1) I ?_
  intro cs cl cm n h L st cn K P N Lv S O B oc nd tg bs en dn et bi f_grown f_runningEngine f_ending f_callCount f_closureCount f_frame f_waitingCount a_kinds a_operands a_parents a_places a_children a_levels a_nests a_scopes a_nodeLambdas a_lambdaNodes a_liveNodes a_nodeFlows a_paramFlows a_entries a_frameReturns a_closureLambdas a_records a_calledSets a_closureValues a_frameValues a_waiting b_s b_p b_live b_fn b_val hI I0
  obtain ⟨A, X, l1, l2, m1, m2, s, S1, S2⟩ := hI
  obtain ⟨hn, hh, hL⟩ := ez_48 A
  unfold wpX_flow
  refine xx_isSolvedNode hn s (fun z => ?_) (fun j h1 hj e => ?_)
  · refine br_t rfl ?_
    rcases z with z | ⟨z, y⟩
    · exact br_t ((ez_st s).2.mpr z) ⟨rfl, I0⟩
    · refine br_f (fun w => by have := (ez_st s).2.mp w; omega) (yy_has hn (fun _ => br_t rfl ⟨rfl, I0⟩) (fun j hj e => ?_))
      subst e
      rcases y with y | y
      · exact absurd y (nI_pos (by omega))
      · exact absurd y (nI_ge hj (by omega))
  · refine br_f (by decide) ?_
    subst e
    obtain ⟨_, a1, a2⟩ := S1 h1
    have hi : vp_in (nI j) 48 := vp_in_nI (by omega) (by omega)
    have hc := nI_clamp (n := j) (by omega)
    have eq : b_s j = a_nodeFlows j := (a2.1 j hj).2.trans (a1.1 j hj).2.symm
    refine ⟨hi, ?_⟩
    rw [hc]
    refine br_f (fun w => by have := (ez_st s).2.mp w; omega) (yy_has hn (fun z => ?_) (fun _ _ _ => br_f (by decide) ⟨hi, ?_⟩))
    · rcases z with z | z
      · exact absurd z (nI_pos (by omega))
      · exact absurd z (nI_ge hj (by omega))
    · rw [hc]
      exact ⟨eq, I0⟩
theorem i_vc_param {k : Nat} {u : SX} {v : SY} (I : i_Rel k u v) (hk : k + 3 ≤ 1539) (v1 : Int32) : wpX_param (fun r => wpY_param (fun r' => r' = r ∧ i_Rel (k + 3) u v) v v1) u v1 := by
  refine i_el (G := fun u v => wpX_param (fun r => wpY_param (fun r' => r' = r ∧ i_Rel (k + 3) u v) v v1) u v1) I ?_
  intro cs cl cm n h L st cn K P N Lv S O B oc nd tg bs en dn et bi f_grown f_runningEngine f_ending f_callCount f_closureCount f_frame f_waitingCount a_kinds a_operands a_parents a_places a_children a_levels a_nests a_scopes a_nodeLambdas a_lambdaNodes a_liveNodes a_nodeFlows a_paramFlows a_entries a_frameReturns a_closureLambdas a_records a_calledSets a_closureValues a_frameValues a_waiting b_s b_p b_live b_fn b_val hI I0
  obtain ⟨A, X, l1, l2, m1, m2, s, S1, S2⟩ := hI
  obtain ⟨hn, hh, hL⟩ := ez_48 A
  have hLn := A.2.2.2.2.1
  unfold wpX_param
  refine xx_isSolvedLambda hL s (fun z => ?_) (fun j h1 hj e => ?_)
  · refine br_t rfl ?_
    rcases z with z | ⟨z, y⟩
    · exact br_t ((ez_st s).2.mpr z) ⟨rfl, I0⟩
    · refine br_f (fun w => by have := (ez_st s).2.mp w; omega) (yy_lambdaNode hn (ez_kd A X) (fun m hm km e => ?_) (fun _ => br_t (by decide) ⟨rfl, I0⟩))
      subst e
      have := tr_lc_lt hm km
      rcases y with y | y
      · exact absurd y (nI_pos (by omega))
      · exact absurd y (nI_ge (by omega) (by omega))
  · refine br_f (by decide) ?_
    subst e
    obtain ⟨_, a1, a2⟩ := S1 h1
    have hi : vp_in (nI j) 16 := vp_in_nI (by omega) (by omega)
    have hc := nI_clamp (n := j) (by omega)
    have eq : b_p j = a_paramFlows j := (a2.2 j hj).trans (a1.2 j hj).symm
    refine ⟨hi, ?_⟩
    rw [hc]
    refine br_f (fun w => by have := (ez_st s).2.mp w; omega) (yy_lambdaNode hn (ez_kd A X) (fun m hm km e => br_f (nI_pos (by omega)) ⟨hi, ?_⟩) (fun w => ?_))
    · rw [hc]
      exact ⟨eq, I0⟩
    · obtain ⟨m, q1, q2, q3⟩ := tr_lc_find (K := K) (l := j) n (by omega)
      exact absurd (by rw [q3]) (w m q1 q2)
theorem i_vc_called {k : Nat} {u : SX} {v : SY} (I : i_Rel k u v) (hk : k + 3 ≤ 1539) (v1 : Int32) (v2 : Int32) : wpX_called (fun r => wpY_called (fun r' => r' = r ∧ i_Rel (k + 3) u v) v v1 v2) u v1 v2 := by
  refine i_el (G := fun u v => wpX_called (fun r => wpY_called (fun r' => r' = r ∧ i_Rel (k + 3) u v) v v1 v2) u v1 v2) I ?_
  intro cs cl cm n h L st cn K P N Lv S O B oc nd tg bs en dn et bi f_grown f_runningEngine f_ending f_callCount f_closureCount f_frame f_waitingCount a_kinds a_operands a_parents a_places a_children a_levels a_nests a_scopes a_nodeLambdas a_lambdaNodes a_liveNodes a_nodeFlows a_paramFlows a_entries a_frameReturns a_closureLambdas a_records a_calledSets a_closureValues a_frameValues a_waiting b_s b_p b_live b_fn b_val hI I0
  obtain ⟨A, X, l1, l2, m1, m2, s, S1, S2⟩ := hI
  obtain ⟨hn, hh, hL⟩ := ez_48 A
  have main : ∀ e : Nat, e < 2 → wpX_isNode (fun r_3 => ((r_3 = 0 → wpY_called (fun r' => r' = -1 ∧ i_Rel (k + 3) ((nI cs), (nI cl), (nI cm), (nI n), (nI h), (nI L), (nI st), f_grown, (nI cn), f_runningEngine, f_ending, f_callCount, f_closureCount, f_frame, f_waitingCount, a_kinds, a_operands, a_parents, a_places, a_children, a_levels, a_nests, a_scopes, a_nodeLambdas, a_lambdaNodes, a_liveNodes, a_nodeFlows, a_paramFlows, (rn_F oc), (rn_F nd), (rn_F tg), (rn_F bs), a_entries, a_frameReturns, a_frameValues, a_closureLambdas, a_closureValues, a_waiting, a_records, a_calledSets) ((nI cs), (nI cl), (nI cm), (nI n), (nI h), (nI st), a_kinds, a_operands, a_parents, b_s, b_p, a_records, a_calledSets, b_live, (rn_F dn), b_fn, b_val, (rn_F et), (rn_F bi))) ((nI cs), (nI cl), (nI cm), (nI n), (nI h), (nI st), a_kinds, a_operands, a_parents, b_s, b_p, a_records, a_calledSets, b_live, (rn_F dn), b_fn, b_val, (rn_F et), (rn_F bi)) (nI e) v2) ∧ (¬ r_3 = 0 → (vp_in v2 48 ∧ ((a_kinds v2.toNatClampNeg = 3 → wpX_hasRun (fun r_47 => ((r_47 = 0 → wpY_called (fun r' => r' = 0 ∧ i_Rel (k + 3) ((nI cs), (nI cl), (nI cm), (nI n), (nI h), (nI L), (nI st), f_grown, (nI cn), f_runningEngine, f_ending, f_callCount, f_closureCount, f_frame, f_waitingCount, a_kinds, a_operands, a_parents, a_places, a_children, a_levels, a_nests, a_scopes, a_nodeLambdas, a_lambdaNodes, a_liveNodes, a_nodeFlows, a_paramFlows, (rn_F oc), (rn_F nd), (rn_F tg), (rn_F bs), a_entries, a_frameReturns, a_frameValues, a_closureLambdas, a_closureValues, a_waiting, a_records, a_calledSets) ((nI cs), (nI cl), (nI cm), (nI n), (nI h), (nI st), a_kinds, a_operands, a_parents, b_s, b_p, a_records, a_calledSets, b_live, (rn_F dn), b_fn, b_val, (rn_F et), (rn_F bi))) ((nI cs), (nI cl), (nI cm), (nI n), (nI h), (nI st), a_kinds, a_operands, a_parents, b_s, b_p, a_records, a_calledSets, b_live, (rn_F dn), b_fn, b_val, (rn_F et), (rn_F bi)) (nI e) v2) ∧ (¬ r_47 = 0 → (vp_in (nI e * 48 + v2) 96 ∧ wpY_called (fun r' => r' = a_calledSets (nI e * 48 + v2).toNatClampNeg ∧ i_Rel (k + 3) ((nI cs), (nI cl), (nI cm), (nI n), (nI h), (nI L), (nI st), f_grown, (nI cn), f_runningEngine, f_ending, f_callCount, f_closureCount, f_frame, f_waitingCount, a_kinds, a_operands, a_parents, a_places, a_children, a_levels, a_nests, a_scopes, a_nodeLambdas, a_lambdaNodes, a_liveNodes, a_nodeFlows, a_paramFlows, (rn_F oc), (rn_F nd), (rn_F tg), (rn_F bs), a_entries, a_frameReturns, a_frameValues, a_closureLambdas, a_closureValues, a_waiting, a_records, a_calledSets) ((nI cs), (nI cl), (nI cm), (nI n), (nI h), (nI st), a_kinds, a_operands, a_parents, b_s, b_p, a_records, a_calledSets, b_live, (rn_F dn), b_fn, b_val, (rn_F et), (rn_F bi))) ((nI cs), (nI cl), (nI cm), (nI n), (nI h), (nI st), a_kinds, a_operands, a_parents, b_s, b_p, a_records, a_calledSets, b_live, (rn_F dn), b_fn, b_val, (rn_F et), (rn_F bi)) (nI e) v2)))) ((nI cs), (nI cl), (nI cm), (nI n), (nI h), (nI L), (nI st), f_grown, (nI cn), f_runningEngine, f_ending, f_callCount, f_closureCount, f_frame, f_waitingCount, a_kinds, a_operands, a_parents, a_places, a_children, a_levels, a_nests, a_scopes, a_nodeLambdas, a_lambdaNodes, a_liveNodes, a_nodeFlows, a_paramFlows, (rn_F oc), (rn_F nd), (rn_F tg), (rn_F bs), a_entries, a_frameReturns, a_frameValues, a_closureLambdas, a_closureValues, a_waiting, a_records, a_calledSets) (nI e)) ∧ (¬ a_kinds v2.toNatClampNeg = 3 → wpY_called (fun r' => r' = -1 ∧ i_Rel (k + 3) ((nI cs), (nI cl), (nI cm), (nI n), (nI h), (nI L), (nI st), f_grown, (nI cn), f_runningEngine, f_ending, f_callCount, f_closureCount, f_frame, f_waitingCount, a_kinds, a_operands, a_parents, a_places, a_children, a_levels, a_nests, a_scopes, a_nodeLambdas, a_lambdaNodes, a_liveNodes, a_nodeFlows, a_paramFlows, (rn_F oc), (rn_F nd), (rn_F tg), (rn_F bs), a_entries, a_frameReturns, a_frameValues, a_closureLambdas, a_closureValues, a_waiting, a_records, a_calledSets) ((nI cs), (nI cl), (nI cm), (nI n), (nI h), (nI st), a_kinds, a_operands, a_parents, b_s, b_p, a_records, a_calledSets, b_live, (rn_F dn), b_fn, b_val, (rn_F et), (rn_F bi))) ((nI cs), (nI cl), (nI cm), (nI n), (nI h), (nI st), a_kinds, a_operands, a_parents, b_s, b_p, a_records, a_calledSets, b_live, (rn_F dn), b_fn, b_val, (rn_F et), (rn_F bi)) (nI e) v2)))))) ((nI cs), (nI cl), (nI cm), (nI n), (nI h), (nI L), (nI st), f_grown, (nI cn), f_runningEngine, f_ending, f_callCount, f_closureCount, f_frame, f_waitingCount, a_kinds, a_operands, a_parents, a_places, a_children, a_levels, a_nests, a_scopes, a_nodeLambdas, a_lambdaNodes, a_liveNodes, a_nodeFlows, a_paramFlows, (rn_F oc), (rn_F nd), (rn_F tg), (rn_F bs), a_entries, a_frameReturns, a_frameValues, a_closureLambdas, a_closureValues, a_waiting, a_records, a_calledSets) v2 := fun e he => by
    have p0 : ¬ nI e < 0 := nI_pos (by omega)
    have p1 : ¬ 1 < nI e := nI_nlt (b := e) (a := 1) (by omega) (by decide)
    have i5 : vp_in (nI e * 5) 10 := by
      rw [show nI e * 5 = nI (e * 5) from pk_mul e 5]
      exact vp_in_nI (by omega) (by omega)
    refine xx_isNode hn (fun z => br_t rfl ?_) (fun j hj ej => br_f (by decide) ?_)
    · refine br_f p0 (br_f p1 (yy_has hn (fun _ => br_t rfl ⟨rfl, I0⟩) (fun j hj e => ?_)))
      subst e
      rcases z with z | z
      · exact absurd z (nI_pos (by omega))
      · exact absurd z (nI_ge hj (by omega))
    · subst ej
      have hi : vp_in (nI j) 48 := vp_in_nI (by omega) (by omega)
      have iv : vp_in (nI e * 48 + nI j) 96 := by
        rw [show nI e * 48 = nI (e * 48) from pk_mul e 48, nI_add]
        exact vp_in_nI (by omega) (by omega)
      have yn : ∀ {post : Int32 → Prop}, post 1 → wpY_has post ((nI cs), (nI cl), (nI cm), (nI n), (nI h), (nI st), a_kinds, a_operands, a_parents, b_s, b_p, a_records, a_calledSets, b_live, (rn_F dn), b_fn, b_val, (rn_F et), (rn_F bi)) (nI j) := fun hp => yy_has hn (fun z => by
        rcases z with z | z
        · exact absurd z (nI_pos (by omega))
        · exact absurd z (nI_ge hj (by omega))) (fun _ _ _ => hp)
      refine ⟨hi, br_c (fun z => ⟨i5, br_c (fun w => ?_) (fun w => ?_)⟩) (fun z => ?_)⟩
      · exact br_t rfl (br_f p0 (br_f p1 (yn (br_f (by decide) ⟨hi, br_t z ⟨i5, br_t w ⟨rfl, I0⟩⟩⟩))))
      · exact br_f (by decide) ⟨iv, br_f p0 (br_f p1 (yn (br_f (by decide) ⟨hi, br_t z ⟨i5, br_f w ⟨iv, rfl, I0⟩⟩⟩)))⟩
      · exact br_f p0 (br_f p1 (yn (br_f (by decide) ⟨hi, br_f z ⟨rfl, I0⟩⟩)))
  rcases ez_e v1 with rfl | rfl | ⟨a, b, c⟩
  · exact br_t rfl (br_f (by decide) (main 0 (by decide)))
  · exact br_f (by decide) (br_t rfl (br_f (by decide) (main 1 (by decide))))
  · refine br_f a (br_f b (br_t rfl ?_))
    rcases c with c | ⟨c, d⟩
    · exact br_t c ⟨rfl, I0⟩
    · exact br_f c (br_t d ⟨rfl, I0⟩)
