/-! ===== the class: a new node ===== -/
/-- the parent as an int -/
def xp_p (n p : Nat) : Int32 := if n = 0 then -1 else nI p
theorem xp_p0 (p : Nat) : xp_p 0 p = -1 := rfl
theorem xp_p1 {n : Nat} (p : Nat) (h : 0 < n) : xp_p n p = nI p := if_neg (by omega)
theorem re_uu {f : Nat → Int32} {k : Nat} {x y : Int32} : upd (upd f k x) k y = upd f k y := by
  funext j
  unfold upd
  by_cases z : j = k
  · rw [if_pos z, if_pos z]
  · rw [if_neg z, if_neg z, if_neg z]
section
variable {f_cellLimit f_callLimit f_closureLimit f_nodes f_holes f_lambdas f_stageReached f_grown f_codeLength f_runningEngine f_ending f_callCount f_closureCount f_frame f_waitingCount : Int32} {a_kinds a_operands a_parents a_places a_children a_levels a_nests a_scopes a_nodeLambdas a_lambdaNodes a_liveNodes a_nodeFlows a_paramFlows a_codeOps a_codeNodes a_codeTargets a_branchSpots a_entries a_frameReturns a_closureLambdas a_records a_calledSets : Nat → Int32} {a_closureValues a_frameValues a_waiting : Nat → Int64}
variable {cs n h L p : Nat} {K P N Lv S O B : Nat → Nat}
theorem xx_nestUnder {post : Int32 → Prop} (hn : n ≤ 48) (hp : re_p K P n p) (hk : 0 < n → a_kinds p = nI (K p) ∧ K p ≤ 6) (hv : 0 < n → a_nests p = nI (N p)) (hpost : post (nI (re_nu K N n p))) : wpX_nestUnder post (f_cellLimit, f_callLimit, f_closureLimit, f_nodes, f_holes, f_lambdas, f_stageReached, f_grown, f_codeLength, f_runningEngine, f_ending, f_callCount, f_closureCount, f_frame, f_waitingCount, a_kinds, a_operands, a_parents, a_places, a_children, a_levels, a_nests, a_scopes, a_nodeLambdas, a_lambdaNodes, a_liveNodes, a_nodeFlows, a_paramFlows, a_codeOps, a_codeNodes, a_codeTargets, a_branchSpots, a_entries, a_frameReturns, a_frameValues, a_closureLambdas, a_closureValues, a_waiting, a_records, a_calledSets) (xp_p n p) := by
  unfold re_nu at hpost
  by_cases z : n = 0
  · rw [if_pos z] at hpost
    subst z
    rw [xp_p0]
    exact br_f (by decide) hpost
  · rw [if_neg z] at hpost
    have z' : 0 < n := by omega
    have h48 := (hp z').1
    rw [xp_p1 p z']
    refine br_t (nI_pos' (by omega)) ⟨vp_in_nI (by omega) (by omega), ?_⟩
    rw [nI_clamp (by omega), (hk z').1, hv z']
    by_cases k2 : K p = 2
    · rw [if_pos k2] at hpost
      rw [k2]
      exact br_t (by decide) ⟨vp_in_nI (by omega) (by omega), by rw [nI_1]; exact hpost⟩
    · rw [if_neg k2] at hpost
      refine br_f (fun w => k2 ?_) ⟨vp_in_nI (by omega) (by omega), hpost⟩
      have := (hk z').2
      exact (nI_eq (b := 2) (by omega) (by decide)).mp w
theorem xx_levelUnder {post : Int32 → Prop} (hn : n ≤ 48) (hp : re_p K P n p) (hk : 0 < n → a_kinds p = nI (K p) ∧ K p ≤ 6) (hv : 0 < n → a_levels p = nI (Lv p)) (hpost : post (nI (re_lu K Lv n p))) : wpX_levelUnder post (f_cellLimit, f_callLimit, f_closureLimit, f_nodes, f_holes, f_lambdas, f_stageReached, f_grown, f_codeLength, f_runningEngine, f_ending, f_callCount, f_closureCount, f_frame, f_waitingCount, a_kinds, a_operands, a_parents, a_places, a_children, a_levels, a_nests, a_scopes, a_nodeLambdas, a_lambdaNodes, a_liveNodes, a_nodeFlows, a_paramFlows, a_codeOps, a_codeNodes, a_codeTargets, a_branchSpots, a_entries, a_frameReturns, a_frameValues, a_closureLambdas, a_closureValues, a_waiting, a_records, a_calledSets) (xp_p n p) := by
  unfold re_lu at hpost
  by_cases z : n = 0
  · rw [if_pos z] at hpost
    subst z
    rw [xp_p0]
    exact br_t (by decide) hpost
  · rw [if_neg z] at hpost
    have z' : 0 < n := by omega
    have h48 := (hp z').1
    rw [xp_p1 p z']
    refine br_f (nI_pos (by omega)) ⟨vp_in_nI (by omega) (by omega), ?_⟩
    rw [nI_clamp (by omega), (hk z').1, hv z']
    by_cases k2 : K p = 2
    · rw [if_pos k2] at hpost
      rw [k2]
      exact br_t (by decide) hpost
    · rw [if_neg k2] at hpost
      refine br_f (fun w => k2 ?_) ⟨vp_in_nI (by omega) (by omega), by rw [nI_1]; exact hpost⟩
      have := (hk z').2
      exact (nI_eq (b := 2) (by omega) (by decide)).mp w
theorem xx_scopeUnder {post : Int32 → Prop} (hn : n ≤ 48) (hp : re_p K P n p) (hk : 0 < n → a_kinds p = nI (K p) ∧ K p ≤ 6) (hv : 0 < n → a_scopes p = nI (S p)) (hl : 0 < n → K p = 2 → a_nodeLambdas p = nI (tr_lc K p) ∧ tr_lc K p < 16) (hpost : post (nI (re_su K S n p))) : wpX_scopeUnder post (f_cellLimit, f_callLimit, f_closureLimit, f_nodes, f_holes, f_lambdas, f_stageReached, f_grown, f_codeLength, f_runningEngine, f_ending, f_callCount, f_closureCount, f_frame, f_waitingCount, a_kinds, a_operands, a_parents, a_places, a_children, a_levels, a_nests, a_scopes, a_nodeLambdas, a_lambdaNodes, a_liveNodes, a_nodeFlows, a_paramFlows, a_codeOps, a_codeNodes, a_codeTargets, a_branchSpots, a_entries, a_frameReturns, a_frameValues, a_closureLambdas, a_closureValues, a_waiting, a_records, a_calledSets) (xp_p n p) := by
  unfold re_su at hpost
  by_cases z : n = 0
  · rw [if_pos z] at hpost
    subst z
    rw [xp_p0]
    exact br_f (by decide) hpost
  · rw [if_neg z] at hpost
    have z' : 0 < n := by omega
    have h48 := (hp z').1
    rw [xp_p1 p z']
    refine br_t (nI_pos' (by omega)) ⟨vp_in_nI (by omega) (by omega), ?_⟩
    rw [nI_clamp (by omega), (hk z').1, hv z']
    by_cases k2 : K p = 2
    · rw [if_pos k2] at hpost
      obtain ⟨l1, l2⟩ := hl z' k2
      rw [k2]
      refine br_t (by decide) ⟨vp_in_nI (by omega) (by omega), vp_in_nI (by omega) (by omega), ?_⟩
      rw [l1, bi_shl _ (by omega), bi_or]
      exact hpost
    · rw [if_neg k2] at hpost
      refine br_f (fun w => k2 ?_) ⟨vp_in_nI (by omega) (by omega), hpost⟩
      have := (hk z').2
      exact (nI_eq (b := 2) (by omega) (by decide)).mp w
/-- the scan for the binder -/
theorem xx_binder_l {post : Int32 → Prop} {s o nu : Nat} (hs : s < 65536) (ho : o < 2 ^ 31) (h1 : ∀ l, s.testBit l = true → tr_bc (fun j => s.testBit j) l + o + 1 = nu → post (nI l)) (h2 : nu ≤ o → post (-1)) : ∀ j x m, j ≤ 16 → j < m → x ≤ o → x + nu = o + tr_bc (fun j => s.testBit j) j → wX_binderAt_23 post (nI s) f_cellLimit f_callLimit f_closureLimit f_nodes f_holes f_lambdas f_stageReached f_grown f_codeLength f_runningEngine f_ending f_callCount f_closureCount f_frame f_waitingCount a_kinds a_operands a_parents a_places a_children a_levels a_nests a_scopes a_nodeLambdas a_lambdaNodes a_liveNodes a_nodeFlows a_paramFlows a_codeOps a_codeNodes a_codeTargets a_branchSpots a_entries a_frameReturns a_frameValues a_closureLambdas a_closureValues a_waiting a_records a_calledSets m (nI x) (if j = 0 then -1 else nI (j - 1)) := by
  intro j
  induction j with
  | zero =>
    intro x m h3 h4 h5 h6
    obtain ⟨m, rfl⟩ : ∃ m', m = m' + 1 := ⟨m - 1, by omega⟩
    have h6' : x + nu = o + 0 := h6
    exact br_t (by decide) (h2 (by omega))
  | succ j ih =>
    intro x m h3 h4 h5 h6
    obtain ⟨m, rfl⟩ : ∃ m', m = m' + 1 := ⟨m - 1, by omega⟩
    rw [if_neg (by omega), Nat.add_sub_cancel]
    have h6' : x + nu = o + (tr_bc (fun j => s.testBit j) j + (if s.testBit j = true then 1 else 0)) := h6
    have dn : nI j + (-1) = (if j = 0 then -1 else nI (j - 1)) := by
      cases j with
      | zero => decide
      | succ j => rw [if_neg (by omega), Nat.add_sub_cancel]; exact pk_m1 j
    refine br_f (nI_pos (by omega)) ?_
    cases e : s.testBit j with
    | false =>
      rw [e, if_neg (by decide)] at h6'
      refine br_t ((bi_test (by omega) (by omega)).mpr e) (nm_r dn ?_)
      exact ih x m (by omega) (by omega) h5 (by omega)
    | true =>
      rw [e, if_pos rfl] at h6'
      refine br_f (fun w => ?_) ?_
      · rw [(bi_test (by omega) (by omega)).mp w] at e; cases e
      · cases x with
        | zero => exact br_t rfl (h1 j e (by omega))
        | succ x =>
          refine br_f (nI_ne0 (by omega) (by omega)) (nm_r (pk_m1 x) (nm_r dn ?_))
          exact ih x m (by omega) (by omega) (by omega) (by omega)
theorem xx_binderAt {post : Int32 → Prop} (A : re_A cs n h L K P N Lv S O B) (hp : re_p K P n p) (hk : 0 < n → a_kinds p = nI (K p) ∧ K p ≤ 6) (hv : 0 < n → a_scopes p = nI (S p)) (hl : 0 < n → K p = 2 → a_nodeLambdas p = nI (tr_lc K p) ∧ tr_lc K p < 16) {v : Int32}
    (h1 : ∀ o b, o < 2 ^ 31 → v = nI o → o < re_nu K N n p → b < n → K b = 2 → (re_su K S n p).testBit (tr_lc K b) = true → N b + o + 1 = re_nu K N n p → post (nI (tr_lc K b))) (h2 : (v < 0 ∨ nI (re_nu K N n p) ≤ v) → post (-1)) : wpX_binderAt post (f_cellLimit, f_callLimit, f_closureLimit, f_nodes, f_holes, (nI L), f_stageReached, f_grown, f_codeLength, f_runningEngine, f_ending, f_callCount, f_closureCount, f_frame, f_waitingCount, a_kinds, a_operands, a_parents, a_places, a_children, a_levels, a_nests, a_scopes, a_nodeLambdas, a_lambdaNodes, a_liveNodes, a_nodeFlows, a_paramFlows, a_codeOps, a_codeNodes, a_codeTargets, a_branchSpots, a_entries, a_frameReturns, a_frameValues, a_closureLambdas, a_closureValues, a_waiting, a_records, a_calledSets) (xp_p n p) v := by
  obtain ⟨u1, u2, u3⟩ := re_nu_5 A hp
  obtain ⟨r1, r2⟩ := re_rank A hp
  have hn : n ≤ 48 := by have := A.2.2.1; have := A.2.2.2.1; omega
  have hL := A.2.2.2.2.2.1
  refine br_c (fun z => ?_) (fun z => h2 (Or.inl (Int32.not_le.mp z)))
  obtain ⟨o, ho, rfl⟩ := nI_of (x := v) (Int32.not_lt.mpr z)
  refine xx_scopeUnder hn hp hk hv hl (nm_r (e' := if L = 0 then -1 else nI (L - 1)) ?_ ⟨17, ?_⟩)
  · by_cases y : L = 0
    · subst y; decide
    · rw [if_neg y]; exact pk_sub (b := 1) (by omega)
  · refine xx_binder_l u3 ho (fun l hl' e => ?_) (fun y => h2 (Or.inr (nI_le y ho))) L o 17 hL (by omega) (Nat.le_refl o) ?_
    · obtain ⟨b, b1, b2, b3, b4⟩ := r1 l hl'
      rw [← b3]
      exact h1 o b ho rfl (by omega) b1 b2 (by rw [b3]; exact hl') (by omega)
    · rw [r2 L (Nat.le_refl L)]
theorem xx_isTooDeep {post : Int32 → Prop} {k : Nat} (hk6 : k ≤ 6) (A : re_A cs n h L K P N Lv S O B) (hp : re_p K P n p) (hk : 0 < n → a_kinds p = nI (K p) ∧ K p ≤ 6) (hv : 0 < n → a_nests p = nI (N p)) (hv2 : 0 < n → a_levels p = nI (Lv p)) (h0 : (k = 2 → re_nu K N n p ≤ 4) → (3 ≤ k → re_lu K Lv n p ≤ 4) → post 0) (h1 : (k = 2 ∧ re_nu K N n p = 5) ∨ (3 ≤ k ∧ re_lu K Lv n p = 5) → post 1) : wpX_isTooDeep post (f_cellLimit, f_callLimit, f_closureLimit, f_nodes, f_holes, f_lambdas, f_stageReached, f_grown, f_codeLength, f_runningEngine, f_ending, f_callCount, f_closureCount, f_frame, f_waitingCount, a_kinds, a_operands, a_parents, a_places, a_children, a_levels, a_nests, a_scopes, a_nodeLambdas, a_lambdaNodes, a_liveNodes, a_nodeFlows, a_paramFlows, a_codeOps, a_codeNodes, a_codeTargets, a_branchSpots, a_entries, a_frameReturns, a_frameValues, a_closureLambdas, a_closureValues, a_waiting, a_records, a_calledSets) (nI k) (xp_p n p) := by
  obtain ⟨u1, u2, u3⟩ := re_nu_5 A hp
  have hn : n ≤ 48 := by have := A.2.2.1; have := A.2.2.2.1; omega
  by_cases z : k = 2
  · subst z
    refine br_t (by decide) (xx_nestUnder hn hp hk hv ?_)
    by_cases y : re_nu K N n p = 5
    · rw [y]
      exact br_f (by decide) (h1 (Or.inl ⟨rfl, y⟩))
    · exact br_t (nI_lt (b := 5) (by omega) (by decide)) (h0 (fun _ => by omega) (fun _ => by omega))
  · refine br_f (fun w => z ((nI_eq (b := 2) (by omega) (by decide)).mp w)) (xx_childrenOf hk6 ?_)
    by_cases y : 3 ≤ k
    · have ha : 0 < tr_ar k := by
        by_cases k6 : k = 6
        · rw [tr_ar_3 k6]; omega
        · rw [tr_ar_2 y k6]; omega
      have := tr_ar_3' k
      refine br_f (nI_nle ha (by omega)) (xx_levelUnder hn hp hk hv2 ?_)
      by_cases x : re_lu K Lv n p = 5
      · rw [x]
        exact br_f (by decide) (h1 (Or.inr ⟨y, x⟩))
      · exact br_t (nI_lt (b := 5) (by omega) (by decide)) (h0 (fun _ => by omega) (fun _ => by omega))
    · rw [tr_ar_0 (show k < 2 by omega)]
      exact br_t (by decide) (h0 (fun _ => by omega) (fun _ => by omega))
end
