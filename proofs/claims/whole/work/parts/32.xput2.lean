/-! ===== the class: put ===== -/
section
variable {f_cellLimit f_callLimit f_closureLimit f_nodes f_holes f_lambdas f_stageReached f_grown f_codeLength f_runningEngine f_ending f_callCount f_closureCount f_frame f_waitingCount : Int32} {a_kinds a_operands a_parents a_places a_children a_levels a_nests a_scopes a_nodeLambdas a_lambdaNodes a_liveNodes a_nodeFlows a_paramFlows a_codeOps a_codeNodes a_codeTargets a_branchSpots a_entries a_frameReturns a_closureLambdas a_records a_calledSets : Nat → Int32} {a_closureValues a_frameValues a_waiting : Nat → Int64}
variable {cs n h L p : Nat} {K P N Lv S O B : Nat → Nat}
theorem xx_place_end {post : SX → Prop} (Ok : tr_Ok K P n) (hn : n < 48) (hp : re_p K P n p) (C : re_C n P a_children) {ch : Nat → Int32} (hch : ch = upd (upd (upd a_children (n * 3 + 0) (-1)) (n * 3 + 1) (-1)) (n * 3 + 2) (-1))
    (hpost : ∀ ch', re_C (n + 1) (tr_put P n p) ch' → post (f_cellLimit, f_callLimit, f_closureLimit, (nI n), f_holes, f_lambdas, f_stageReached, f_grown, f_codeLength, f_runningEngine, f_ending, f_callCount, f_closureCount, f_frame, f_waitingCount, a_kinds, a_operands, a_parents, (upd a_places n (if n = 0 then 0 else nI (tr_cnt P p n))), ch', a_levels, a_nests, a_scopes, a_nodeLambdas, a_lambdaNodes, a_liveNodes, a_nodeFlows, a_paramFlows, a_codeOps, a_codeNodes, a_codeTargets, a_branchSpots, a_entries, a_frameReturns, a_frameValues, a_closureLambdas, a_closureValues, a_waiting, a_records, a_calledSets)) (m : Nat) : wX_placeUnder_64 post (xp_p n p) f_cellLimit f_callLimit f_closureLimit (nI n) f_holes f_lambdas f_stageReached f_grown f_codeLength f_runningEngine f_ending f_callCount f_closureCount f_frame f_waitingCount (m + 1) 3 a_kinds a_operands a_parents (upd a_places n 0) ch a_levels a_nests a_scopes a_nodeLambdas a_lambdaNodes a_liveNodes a_nodeFlows a_paramFlows a_codeOps a_codeNodes a_codeTargets a_branchSpots a_entries a_frameReturns a_frameValues a_closureLambdas a_closureValues a_waiting a_records a_calledSets := by
  have q1 : ∀ k, k < 3 → ch (n * 3 + k) = -1 := fun k hk => by
    rw [hch]
    by_cases z2 : k = 2
    · rw [z2, re_us]
    · rw [re_un (by omega)]
      by_cases z1 : k = 1
      · rw [z1, re_us]
      · rw [re_un (by omega), show k = 0 by omega, re_us]
  have q2 : ∀ j, j < n * 3 → ch j = a_children j := fun j hj => by
    rw [hch, re_un (by omega), re_un (by omega), re_un (by omega)]
  refine br_t (by decide) ?_
  by_cases z : n = 0
  · subst z
    rw [xp_p0]
    refine br_t (by decide) ?_
    have hh := hpost ch (re_C_put Ok hp C q1 (fun w => absurd w (Nat.lt_irrefl 0)) (fun j hj _ => q2 j hj) (fun w => absurd w (Nat.lt_irrefl 0)))
    rw [if_pos rfl] at hh
    exact hh
  · have z' : 0 < n := by omega
    obtain ⟨p1, p2, p3⟩ := hp z'
    have c3 : tr_cnt P p n < 3 := by have := tr_ar_3' (K p); omega
    rw [xp_p1 p z']
    refine br_f (nI_pos (by omega)) (xx_filledPlaces Ok (by omega) p1 (fun q hq k hk => ?_) ⟨vp_in_nI hn (by omega), ?_⟩)
    · rw [q2 (q * 3 + k) (by omega)]
      exact C q hq k hk
    · rw [nI_clamp (by omega), xb_ix, nI_clamp (by omega), re_uu]
      refine nm_e ⟨vp_in_nI (by omega) (by omega), nm_e ?_⟩
      have hh := hpost (upd ch (p * 3 + tr_cnt P p n) (nI n)) (re_C_put Ok hp C (fun k hk => ?_) (fun _ => re_us) (fun j hj w => ?_) (fun _ => c3))
      · rw [if_neg z] at hh
        exact hh
      · rw [re_un (by omega)]; exact q1 k hk
      · rw [re_un (w z')]; exact q2 j hj
theorem xx_placeUnder {post : SX → Prop} (A : re_A cs n h L K P N Lv S O B) (hh : 0 < h) (hp : re_p K P n p) (X : re_X n K P N Lv S O B a_kinds a_operands a_parents a_places a_children a_levels a_nests a_scopes a_nodeLambdas a_lambdaNodes)
    (hpost : ∀ ch', re_C (n + 1) (tr_put P n p) ch' → post (f_cellLimit, f_callLimit, f_closureLimit, (nI n), f_holes, f_lambdas, f_stageReached, f_grown, f_codeLength, f_runningEngine, f_ending, f_callCount, f_closureCount, f_frame, f_waitingCount, a_kinds, a_operands, (upd a_parents n (xp_p n p)), (upd a_places n (if n = 0 then 0 else nI (tr_cnt P p n))), ch', (upd a_levels n (nI (re_lu K Lv n p))), (upd a_nests n (nI (re_nu K N n p))), (upd a_scopes n (nI (re_su K S n p))), a_nodeLambdas, a_lambdaNodes, a_liveNodes, a_nodeFlows, a_paramFlows, a_codeOps, a_codeNodes, a_codeTargets, a_branchSpots, a_entries, a_frameReturns, a_frameValues, a_closureLambdas, a_closureValues, a_waiting, a_records, a_calledSets)) : wpX_placeUnder post (f_cellLimit, f_callLimit, f_closureLimit, (nI n), f_holes, f_lambdas, f_stageReached, f_grown, f_codeLength, f_runningEngine, f_ending, f_callCount, f_closureCount, f_frame, f_waitingCount, a_kinds, a_operands, a_parents, a_places, a_children, a_levels, a_nests, a_scopes, a_nodeLambdas, a_lambdaNodes, a_liveNodes, a_nodeFlows, a_paramFlows, a_codeOps, a_codeNodes, a_codeTargets, a_branchSpots, a_entries, a_frameReturns, a_frameValues, a_closureLambdas, a_closureValues, a_waiting, a_records, a_calledSets) (xp_p n p) := by
  have hn : n < 48 := by have := A.2.2.1; have := A.2.2.2.1; omega
  obtain ⟨x1, x2, x3, x4, x5, x6, x7, x8, x9⟩ := X
  have D := A.2.2.2.2.2.2.2.2.2.1
  have hL := A.2.2.2.2.1
  have hL16 := A.2.2.2.2.2.1
  have pn : 0 < n → p < n := fun z => (hp z).1
  have hi : vp_in (nI n) 48 := vp_in_nI hn (by omega)
  have hc := nI_clamp (n := n) (by omega)
  refine ⟨hi, nm_e ⟨hi, nm_e ?_⟩⟩
  rw [hc]
  refine xx_levelUnder (by omega) hp (fun z => ⟨x1 p (pn z), (D p (pn z)).1⟩) (fun z => (x7 p (pn z)).1) ⟨hi, nm_e ?_⟩
  refine xx_nestUnder (by omega) hp (fun z => ⟨x1 p (pn z), (D p (pn z)).1⟩) (fun z => (x7 p (pn z)).2.1) ⟨hi, nm_e ?_⟩
  refine xx_scopeUnder (by omega) hp (fun z => ⟨x1 p (pn z), (D p (pn z)).1⟩) (fun z => (x7 p (pn z)).2.2) (fun z k => ⟨(x8 p (pn z)).2.1 k, ?_⟩) ⟨hi, nm_e ?_⟩
  · have := tr_lc_lt (pn z) k
    omega
  · have ix : ∀ k, k < 3 → vp_in (nI n * 3 + nI k) 144 ∧ (nI n * 3 + nI k).toNatClampNeg = n * 3 + k := fun k hk => by
      rw [xb_ix, nI_clamp (by omega)]
      exact ⟨vp_in_nI (by omega) (by omega), rfl⟩
    obtain ⟨i0, j0⟩ := ix 0 (by omega)
    obtain ⟨i1, j1⟩ := ix 1 (by omega)
    obtain ⟨i2, j2⟩ := ix 2 (by omega)
    refine ⟨4, br_f (by decide) ⟨i0, nm_r (congrArg (fun z => upd a_children z (-1)) j0) (nm_r (show (0 : Int32) + 1 = nI 1 by decide) ?_)⟩⟩
    refine br_f (by decide) ⟨i1, nm_r (congrArg (fun z => upd _ z (-1)) j1) (nm_r (show nI 1 + 1 = nI 2 by decide) ?_)⟩
    refine br_f (by decide) ⟨i2, nm_r (congrArg (fun z => upd _ z (-1)) j2) (nm_r (show nI 2 + 1 = nI 3 by decide) ?_)⟩
    exact xx_place_end A.1 hn hp x6 rfl hpost 0
end
