/-! ===== the class: reading the term ===== -/
theorem xb_ix (p k : Nat) : nI p * 3 + nI k = nI (p * 3 + k) := by
  show nI p * nI 3 + nI k = _
  rw [pk_mul, nI_add]
theorem xb_3 (p : Nat) : nI p * 3 = nI (p * 3) := pk_mul p 3
theorem tr_ar_3' (k : Nat) : tr_ar k ≤ 3 := by
  unfold tr_ar
  by_cases a : k = 2
  · rw [if_pos a]; omega
  · rw [if_neg a]
    by_cases b : k = 6
    · rw [if_pos b]; omega
    · rw [if_neg b]
      by_cases c : 3 ≤ k
      · rw [if_pos c]; omega
      · rw [if_neg c]; omega
theorem xx_childrenOf {post : Int32 → Prop} {k : Nat} (hk : k ≤ 6) (h : post (nI (tr_ar k))) : wpX_childrenOf post (nI k) := by
  have hc : k = 0 ∨ k = 1 ∨ k = 2 ∨ k = 3 ∨ k = 4 ∨ k = 5 ∨ k = 6 := by omega
  unfold wpX_childrenOf
  rcases hc with rfl | rfl | rfl | rfl | rfl | rfl | rfl
  · exact br_t (by decide) h
  · exact br_t (by decide) h
  · exact br_f (by decide) (br_f (by decide) (br_t (by decide) h))
  · exact br_f (by decide) (br_f (by decide) (br_f (by decide) (br_t (by decide) h)))
  · exact br_f (by decide) (br_f (by decide) (br_f (by decide) (br_f (by decide) (br_t (by decide) h))))
  · exact br_f (by decide) (br_f (by decide) (br_f (by decide) (br_f (by decide) (br_f (by decide) (br_t (by decide) h)))))
  · exact br_f (by decide) (br_f (by decide) (br_f (by decide) (br_f (by decide) (br_f (by decide) (br_f (by decide) (br_t (by decide) h))))))
section
variable {f_cellLimit f_callLimit f_closureLimit f_nodes f_holes f_lambdas f_stageReached f_grown f_codeLength f_runningEngine f_ending f_callCount f_closureCount f_frame f_waitingCount : Int32} {a_kinds a_operands a_parents a_places a_children a_levels a_nests a_scopes a_nodeLambdas a_lambdaNodes a_liveNodes a_nodeFlows a_paramFlows a_codeOps a_codeNodes a_codeTargets a_branchSpots a_entries a_frameReturns a_closureLambdas a_records a_calledSets : Nat → Int32} {a_closureValues a_frameValues a_waiting : Nat → Int64}
theorem xx_childAt {post : Int32 → Prop} {p k : Nat} (hp : p < 48) (hk : k < 3) (h : post (a_children (p * 3 + k))) : wpX_childAt post (f_cellLimit, f_callLimit, f_closureLimit, f_nodes, f_holes, f_lambdas, f_stageReached, f_grown, f_codeLength, f_runningEngine, f_ending, f_callCount, f_closureCount, f_frame, f_waitingCount, a_kinds, a_operands, a_parents, a_places, a_children, a_levels, a_nests, a_scopes, a_nodeLambdas, a_lambdaNodes, a_liveNodes, a_nodeFlows, a_paramFlows, a_codeOps, a_codeNodes, a_codeTargets, a_branchSpots, a_entries, a_frameReturns, a_frameValues, a_closureLambdas, a_closureValues, a_waiting, a_records, a_calledSets) (nI p) (nI k) := by
  show vp_in (nI p * 3 + nI k) 144 ∧ post (a_children (nI p * 3 + nI k).toNatClampNeg)
  rw [xb_ix, nI_clamp (by omega)]
  exact ⟨vp_in_nI (by omega) (by omega), h⟩
theorem xx_bodyOf {post : Int32 → Prop} {l a : Nat} (hl : l < 16) (ha : a < 48) (e : a_lambdaNodes l = nI a) (h : post (a_children (a * 3))) : wpX_bodyOf post (f_cellLimit, f_callLimit, f_closureLimit, f_nodes, f_holes, f_lambdas, f_stageReached, f_grown, f_codeLength, f_runningEngine, f_ending, f_callCount, f_closureCount, f_frame, f_waitingCount, a_kinds, a_operands, a_parents, a_places, a_children, a_levels, a_nests, a_scopes, a_nodeLambdas, a_lambdaNodes, a_liveNodes, a_nodeFlows, a_paramFlows, a_codeOps, a_codeNodes, a_codeTargets, a_branchSpots, a_entries, a_frameReturns, a_frameValues, a_closureLambdas, a_closureValues, a_waiting, a_records, a_calledSets) (nI l) := by
  show vp_in (nI l) 16 ∧ (vp_in (a_lambdaNodes (nI l).toNatClampNeg * 3) 144 ∧ post (a_children (a_lambdaNodes (nI l).toNatClampNeg * 3).toNatClampNeg))
  rw [nI_clamp (by omega), e, xb_3, nI_clamp (by omega)]
  exact ⟨vp_in_nI hl (by omega), vp_in_nI (by omega) (by omega), h⟩
theorem xx_isNode {post : Int32 → Prop} {n : Nat} {x : Int32} (hn : n ≤ 48) (h0 : (x < 0 ∨ nI n ≤ x) → post 0) (h1 : ∀ j, j < n → x = nI j → post 1) : wpX_isNode post (f_cellLimit, f_callLimit, f_closureLimit, (nI n), f_holes, f_lambdas, f_stageReached, f_grown, f_codeLength, f_runningEngine, f_ending, f_callCount, f_closureCount, f_frame, f_waitingCount, a_kinds, a_operands, a_parents, a_places, a_children, a_levels, a_nests, a_scopes, a_nodeLambdas, a_lambdaNodes, a_liveNodes, a_nodeFlows, a_paramFlows, a_codeOps, a_codeNodes, a_codeTargets, a_branchSpots, a_entries, a_frameReturns, a_frameValues, a_closureLambdas, a_closureValues, a_waiting, a_records, a_calledSets) x := by
  show (x < 0 → post 0) ∧ (¬ x < 0 → ((nI n ≤ x → post 0) ∧ (¬ nI n ≤ x → post 1)))
  refine br_c (fun z => h0 (Or.inl z)) (fun z => br_c (fun y => h0 (Or.inr y)) (fun y => ?_))
  rcases pk_ix x (n := n) (by omega) with w | w | ⟨j, w1, w2⟩
  · exact absurd w z
  · exact absurd w y
  · exact h1 j w1 w2
theorem xx_filled_l {post : Int32 → Prop} {K P : Nat → Nat} {n p c : Nat} (Ok : tr_Ok K P n) (hn : n ≤ 48) (hp : p < n) (C : re_C n P a_children) (hc : tr_cnt P p n = c) (h : post (nI c)) : ∀ d k x m, k + d = 3 → d < m → (k ≤ c → x = k) → (c ≤ k → x = c) → wX_filledPlaces_4 post (nI p) f_cellLimit f_callLimit f_closureLimit f_nodes f_holes f_lambdas f_stageReached f_grown f_codeLength f_runningEngine f_ending f_callCount f_closureCount f_frame f_waitingCount a_kinds a_operands a_parents a_places a_children a_levels a_nests a_scopes a_nodeLambdas a_lambdaNodes a_liveNodes a_nodeFlows a_paramFlows a_codeOps a_codeNodes a_codeTargets a_branchSpots a_entries a_frameReturns a_frameValues a_closureLambdas a_closureValues a_waiting a_records a_calledSets m (nI x) (nI k) := by
  intro d
  induction d with
  | zero =>
    intro k x m hk hm h1 h2
    obtain ⟨m, rfl⟩ : ∃ m', m = m' + 1 := ⟨m - 1, by omega⟩
    have hk3 : k = 3 := by omega
    have hc3 : c ≤ 3 := by
      have := tr_cnt_ar (p := p) Ok n (Nat.le_refl n)
      have := tr_ar_3' (K p)
      omega
    subst hk3
    rw [h2 hc3]
    exact br_t (by decide) h
  | succ d ih =>
    intro k x m hk hm h1 h2
    obtain ⟨m, rfl⟩ : ∃ m', m = m' + 1 := ⟨m - 1, by omega⟩
    have hlt : ¬ (3 : Int32) ≤ nI k := nI_ge (b := 3) (by omega) (by decide)
    obtain ⟨c1, c2⟩ := C p hp k (by omega)
    refine br_f hlt ?_
    rw [xb_ix, nI_clamp (by omega)]
    refine ⟨vp_in_nI (by omega) (by omega), ?_⟩
    by_cases z : k < c
    · obtain ⟨q, q0, q1, q2, q3⟩ := tr_find (P := P) (p := p) (k := k) n (by omega)
      rw [c1 q q0 q1 q2 q3]
      refine br_f (nI_pos (by omega)) (nm_r (nI_1 x) (nm_r (nI_1 k) ?_))
      refine ih (k + 1) (x + 1) m (by omega) (by omega) (fun _ => ?_) (fun w => ?_)
      · have := h1 (by omega); omega
      · have := h1 (by omega); omega
    · rw [c2 (by omega)]
      refine br_t (by decide) (nm_r (nI_1 k) ?_)
      refine ih (k + 1) x m (by omega) (by omega) (fun w => ?_) (fun w => ?_)
      · omega
      · exact h2 (by omega)
theorem xx_filledPlaces {post : Int32 → Prop} {K P : Nat → Nat} {n p : Nat} (Ok : tr_Ok K P n) (hn : n ≤ 48) (hp : p < n) (C : re_C n P a_children) (h : post (nI (tr_cnt P p n))) : wpX_filledPlaces post (f_cellLimit, f_callLimit, f_closureLimit, f_nodes, f_holes, f_lambdas, f_stageReached, f_grown, f_codeLength, f_runningEngine, f_ending, f_callCount, f_closureCount, f_frame, f_waitingCount, a_kinds, a_operands, a_parents, a_places, a_children, a_levels, a_nests, a_scopes, a_nodeLambdas, a_lambdaNodes, a_liveNodes, a_nodeFlows, a_paramFlows, a_codeOps, a_codeNodes, a_codeTargets, a_branchSpots, a_entries, a_frameReturns, a_frameValues, a_closureLambdas, a_closureValues, a_waiting, a_records, a_calledSets) (nI p) :=
  ⟨4, xx_filled_l Ok hn hp C rfl h 3 0 0 4 rfl (by omega) (fun _ => rfl) (fun z => by omega)⟩
theorem xx_parent_l {post : Int32 → Prop} {K P : Nat → Nat} {n q : Nat} (Ok : tr_Ok K P n) (hn : n ≤ 48) (hk : ∀ m, m < n → a_kinds m = nI (K m) ∧ K m ≤ 6) (C : re_C n P a_children) (hq : q < n) (hq1 : tr_cnt P q n < tr_ar (K q)) (hq2 : ∀ r, q < r → r < n → tr_ar (K r) ≤ tr_cnt P r n) (h : post (nI q)) : ∀ j m, q ≤ j → j < n → j - q < m → wX_parentOfLeftmostHole_7 post f_cellLimit f_callLimit f_closureLimit f_nodes f_holes f_lambdas f_stageReached f_grown f_codeLength f_runningEngine f_ending f_callCount f_closureCount f_frame f_waitingCount a_kinds a_operands a_parents a_places a_children a_levels a_nests a_scopes a_nodeLambdas a_lambdaNodes a_liveNodes a_nodeFlows a_paramFlows a_codeOps a_codeNodes a_codeTargets a_branchSpots a_entries a_frameReturns a_frameValues a_closureLambdas a_closureValues a_waiting a_records a_calledSets m (nI j) := by
  intro j
  induction j with
  | zero =>
    intro m h1 h2 h3
    obtain ⟨m, rfl⟩ : ∃ m', m = m' + 1 := ⟨m - 1, by omega⟩
    have e : q = 0 := by omega
    subst e
    refine br_f (nI_pos (by omega)) (xx_filledPlaces Ok hn hq C ⟨vp_in_nI (by omega) (by omega), ?_⟩)
    rw [nI_clamp (by omega), (hk 0 h2).1]
    refine xx_childrenOf (hk 0 h2).2 (br_f ?_ h)
    have := tr_ar_3' (K 0)
    exact nI_ge hq1 (by omega)
  | succ j ih =>
    intro m h1 h2 h3
    obtain ⟨m, rfl⟩ : ∃ m', m = m' + 1 := ⟨m - 1, by omega⟩
    have a3 := tr_ar_3' (K (j + 1))
    have c3 := tr_cnt_ar (p := j + 1) Ok n (Nat.le_refl n)
    refine br_f (nI_pos (by omega)) (xx_filledPlaces Ok hn h2 C ⟨vp_in_nI (by omega) (by omega), ?_⟩)
    rw [nI_clamp (by omega), (hk _ h2).1]
    refine xx_childrenOf (hk _ h2).2 ?_
    by_cases e : q = j + 1
    · subst e
      exact br_f (nI_ge hq1 (by omega)) h
    · refine br_t (nI_le (hq2 (j + 1) (by omega) h2) (by omega)) (nm_r (pk_m1 j) ?_)
      exact ih m (by omega) (by omega) (by omega)
theorem xx_parent {post : Int32 → Prop} {K P : Nat → Nat} {n p : Nat} (Ok : tr_Ok K P n) (hn : n ≤ 48) (hk : ∀ m, m < n → a_kinds m = nI (K m) ∧ K m ≤ 6) (C : re_C n P a_children) (hp : re_p K P n p) (h : post (if n = 0 then -1 else nI p)) : wpX_parentOfLeftmostHole post (f_cellLimit, f_callLimit, f_closureLimit, (nI n), f_holes, f_lambdas, f_stageReached, f_grown, f_codeLength, f_runningEngine, f_ending, f_callCount, f_closureCount, f_frame, f_waitingCount, a_kinds, a_operands, a_parents, a_places, a_children, a_levels, a_nests, a_scopes, a_nodeLambdas, a_lambdaNodes, a_liveNodes, a_nodeFlows, a_paramFlows, a_codeOps, a_codeNodes, a_codeTargets, a_branchSpots, a_entries, a_frameReturns, a_frameValues, a_closureLambdas, a_closureValues, a_waiting, a_records, a_calledSets) := by
  by_cases z : n = 0
  · subst z
    rw [if_pos rfl] at h
    exact nm_r (show nI 0 - 1 = -1 by decide) ⟨1, br_t (by decide) h⟩
  · rw [if_neg z] at h
    obtain ⟨p1, p2, p3⟩ := hp (by omega)
    refine nm_r (show nI n - 1 = nI (n - 1) from pk_sub (b := 1) (by omega)) ⟨49, ?_⟩
    exact xx_parent_l Ok hn hk C p1 p2 p3 h (n - 1) 49 (by omega) (by omega) (by omega)
end
