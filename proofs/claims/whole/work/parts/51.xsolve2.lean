/-! ===== the class: passes, solve ===== -/
/-- the number of live nodes -/
def so_n (n : Nat) (t : so_S) : Nat := tr_sum (fun i => t.1 i) n
section
variable {f_cellLimit f_callLimit f_closureLimit f_nodes f_holes f_lambdas f_stageReached f_grown f_codeLength f_runningEngine f_ending f_callCount f_closureCount f_frame f_waitingCount : Int32} {a_kinds a_operands a_parents a_places a_children a_levels a_nests a_scopes a_nodeLambdas a_lambdaNodes a_liveNodes a_nodeFlows a_paramFlows a_codeOps a_codeNodes a_codeTargets a_branchSpots a_entries a_frameReturns a_closureLambdas a_records a_calledSets : Nat → Int32} {a_closureValues a_frameValues a_waiting : Nat → Int64}
variable {cs n L : Nat} {K P N Lv S O B : Nat → Nat} {t0 t : so_S}
theorem xx_growOnce {post : SX → Prop} (A : re_A cs n 0 L K P N Lv S O B) (XT : re_X n K P N Lv S O B a_kinds a_operands a_parents a_places a_children a_levels a_nests a_scopes a_nodeLambdas a_lambdaNodes) (R : so_R n L t) (X : so_X n L t a_liveNodes a_nodeFlows a_paramFlows)
    (hpost : ∀ lv fl pf g, so_X n L (so_G K (tr_e P n) B (tr_lc K) (re_bd K n) L n t) lv fl pf → so_gr g t (so_G K (tr_e P n) B (tr_lc K) (re_bd K n) L n t) → post (f_cellLimit, f_callLimit, f_closureLimit, (nI n), f_holes, (nI L), f_stageReached, g, f_codeLength, f_runningEngine, f_ending, f_callCount, f_closureCount, f_frame, f_waitingCount, a_kinds, a_operands, a_parents, a_places, a_children, a_levels, a_nests, a_scopes, a_nodeLambdas, a_lambdaNodes, lv, fl, pf, a_codeOps, a_codeNodes, a_codeTargets, a_branchSpots, a_entries, a_frameReturns, a_frameValues, a_closureLambdas, a_closureValues, a_waiting, a_records, a_calledSets)) :
    wpX_growOnce post (f_cellLimit, f_callLimit, f_closureLimit, (nI n), f_holes, (nI L), f_stageReached, f_grown, f_codeLength, f_runningEngine, f_ending, f_callCount, f_closureCount, f_frame, f_waitingCount, a_kinds, a_operands, a_parents, a_places, a_children, a_levels, a_nests, a_scopes, a_nodeLambdas, a_lambdaNodes, a_liveNodes, a_nodeFlows, a_paramFlows, a_codeOps, a_codeNodes, a_codeTargets, a_branchSpots, a_entries, a_frameReturns, a_frameValues, a_closureLambdas, a_closureValues, a_waiting, a_records, a_calledSets) := by
  have hn : n ≤ 48 := by have := A.2.2.1; have := A.2.2.2.1; omega
  have T := re_so_T A (re_bd_is (K := K) (n := n))
  have go : ∀ d i f g lv fl pf, i + d = n → d < f → so_X n L (so_ps K (tr_e P n) B (tr_lc K) (re_bd K n) L t i) lv fl pf → so_gr g t (so_ps K (tr_e P n) B (tr_lc K) (re_bd K n) L t i) → wX_growOnce_7 post f (nI i) f_cellLimit f_callLimit f_closureLimit (nI n) f_holes (nI L) f_stageReached g f_codeLength f_runningEngine f_ending f_callCount f_closureCount f_frame f_waitingCount a_kinds a_operands a_parents a_places a_children a_levels a_nests a_scopes a_nodeLambdas a_lambdaNodes lv fl pf a_codeOps a_codeNodes a_codeTargets a_branchSpots a_entries a_frameReturns a_frameValues a_closureLambdas a_closureValues a_waiting a_records a_calledSets := by
    intro d
    induction d with
    | zero =>
      intro i f g lv fl pf hi hf X G
      obtain ⟨f, rfl⟩ : ∃ f', f = f' + 1 := ⟨f - 1, by omega⟩
      have e : i = n := by omega
      subst e
      exact br_t (nI_le (Nat.le_refl _) (by omega)) (hpost lv fl pf g X G)
    | succ d ih =>
      intro i f g lv fl pf hi hf X G
      obtain ⟨f, rfl⟩ : ∃ f', f = f' + 1 := ⟨f - 1, by omega⟩
      have Ri := so_R_ps T R i (by omega)
      have e : so_ps K (tr_e P n) B (tr_lc K) (re_bd K n) L t (i + 1) = (if (so_ps K (tr_e P n) B (tr_lc K) (re_bd K n) L t i).1 i = 1 then so_g K (tr_e P n) B (tr_lc K) (re_bd K n) L (so_ps K (tr_e P n) B (tr_lc K) (re_bd K n) L t i) i else so_ps K (tr_e P n) B (tr_lc K) (re_bd K n) L t i) := rfl
      refine br_f (nI_ge (by omega) (by omega)) ⟨vp_in_nI (by omega) (by omega), ?_⟩
      rw [nI_clamp (by omega), (X.1 i (by omega)).1]
      have h1 := Ri.1 i
      by_cases z : (so_ps K (tr_e P n) B (tr_lc K) (re_bd K n) L t i).1 i = 1
      · rw [if_pos z] at e
        refine br_f (nI_ne0 (by omega) (by omega)) ?_
        refine xx_growNode A XT (by omega) Ri X G (fun lv1 fl1 pf1 g1 X1 G1 => nm_r (nI_1 i) ?_)
        exact ih (i + 1) f g1 lv1 fl1 pf1 (by omega) (by omega) (by rw [e]; exact X1) (by rw [e]; exact G1)
      · rw [if_neg z] at e
        have z0 : (so_ps K (tr_e P n) B (tr_lc K) (re_bd K n) L t i).1 i = 0 := by omega
        refine br_t (by rw [z0]; rfl) (nm_r (nI_1 i) ?_)
        exact ih (i + 1) f g lv fl pf (by omega) (by omega) (by rw [e]; exact X) (by rw [e]; exact G)
  exact ⟨n + 1, go n 0 (n + 1) 0 a_liveNodes a_nodeFlows a_paramFlows (by omega) (by omega) X (so_gr_0 R.1)⟩
theorem xx_countLive {post : Int32 → Prop} (hn : n ≤ 48) (h01 : so_01 t) (X : so_X n L t a_liveNodes a_nodeFlows a_paramFlows) (hpost : post (nI (so_n n t))) : wpX_countLiveNodes post (f_cellLimit, f_callLimit, f_closureLimit, (nI n), f_holes, f_lambdas, f_stageReached, f_grown, f_codeLength, f_runningEngine, f_ending, f_callCount, f_closureCount, f_frame, f_waitingCount, a_kinds, a_operands, a_parents, a_places, a_children, a_levels, a_nests, a_scopes, a_nodeLambdas, a_lambdaNodes, a_liveNodes, a_nodeFlows, a_paramFlows, a_codeOps, a_codeNodes, a_codeTargets, a_branchSpots, a_entries, a_frameReturns, a_frameValues, a_closureLambdas, a_closureValues, a_waiting, a_records, a_calledSets) := by
  have go : ∀ d i f, i + d = n → d < f → wX_countLiveNodes_4 post f_cellLimit f_callLimit f_closureLimit (nI n) f_holes f_lambdas f_stageReached f_grown f_codeLength f_runningEngine f_ending f_callCount f_closureCount f_frame f_waitingCount a_kinds a_operands a_parents a_places a_children a_levels a_nests a_scopes a_nodeLambdas a_lambdaNodes a_liveNodes a_nodeFlows a_paramFlows a_codeOps a_codeNodes a_codeTargets a_branchSpots a_entries a_frameReturns a_frameValues a_closureLambdas a_closureValues a_waiting a_records a_calledSets f (nI (tr_sum (fun i => t.1 i) i)) (nI i) := by
    intro d
    induction d with
    | zero =>
      intro i f hi hf
      obtain ⟨f, rfl⟩ : ∃ f', f = f' + 1 := ⟨f - 1, by omega⟩
      have e : i = n := by omega
      subst e
      exact br_t (nI_le (Nat.le_refl _) (by omega)) hpost
    | succ d ih =>
      intro i f hi hf
      obtain ⟨f, rfl⟩ : ∃ f', f = f' + 1 := ⟨f - 1, by omega⟩
      have e : tr_sum (fun i => t.1 i) (i + 1) = tr_sum (fun i => t.1 i) i + t.1 i := rfl
      refine br_f (nI_ge (by omega) (by omega)) ⟨vp_in_nI (by omega) (by omega), ?_⟩
      rw [nI_clamp (by omega), (X.1 i (by omega)).1]
      have h1 := h01 i
      by_cases z : t.1 i = 1
      · rw [z] at e ⊢
        refine br_f (by decide) (nm_r (nI_1 _) (nm_r (nI_1 i) ?_))
        rw [← e]
        exact ih (i + 1) f (by omega) (by omega)
      · have z0 : t.1 i = 0 := by omega
        rw [z0] at e ⊢
        refine br_t rfl (nm_r (nI_1 i) ?_)
        have e' := e.trans (Nat.add_zero _)
        rw [← e']
        exact ih (i + 1) f (by omega) (by omega)
  exact ⟨n + 1, go n 0 (n + 1) (by omega) (by omega)⟩
theorem xx_startSolution {post : SX → Prop} (hn : n ≤ 48) (hL : L ≤ 16) (h0 : 0 < n) (hpost : ∀ lv fl pf, so_X n L so_t0 lv fl pf → post (f_cellLimit, f_callLimit, f_closureLimit, (nI n), f_holes, (nI L), f_stageReached, f_grown, f_codeLength, f_runningEngine, f_ending, f_callCount, f_closureCount, f_frame, f_waitingCount, a_kinds, a_operands, a_parents, a_places, a_children, a_levels, a_nests, a_scopes, a_nodeLambdas, a_lambdaNodes, lv, fl, pf, a_codeOps, a_codeNodes, a_codeTargets, a_branchSpots, a_entries, a_frameReturns, a_frameValues, a_closureLambdas, a_closureValues, a_waiting, a_records, a_calledSets)) : wpX_startSolution post (f_cellLimit, f_callLimit, f_closureLimit, (nI n), f_holes, (nI L), f_stageReached, f_grown, f_codeLength, f_runningEngine, f_ending, f_callCount, f_closureCount, f_frame, f_waitingCount, a_kinds, a_operands, a_parents, a_places, a_children, a_levels, a_nests, a_scopes, a_nodeLambdas, a_lambdaNodes, a_liveNodes, a_nodeFlows, a_paramFlows, a_codeOps, a_codeNodes, a_codeTargets, a_branchSpots, a_entries, a_frameReturns, a_frameValues, a_closureLambdas, a_closureValues, a_waiting, a_records, a_calledSets) := by
  have go2 : ∀ d i f lv fl pf, i + d = L → d < f → (∀ j, j < n → lv j = nI 0 ∧ fl j = nI 0) → (∀ j, j < i → pf j = nI 0) → wX_startSolution_32 post f_cellLimit f_callLimit f_closureLimit (nI n) f_holes (nI L) f_stageReached f_grown f_codeLength f_runningEngine f_ending f_callCount f_closureCount f_frame f_waitingCount f (nI i) a_kinds a_operands a_parents a_places a_children a_levels a_nests a_scopes a_nodeLambdas a_lambdaNodes lv fl pf a_codeOps a_codeNodes a_codeTargets a_branchSpots a_entries a_frameReturns a_frameValues a_closureLambdas a_closureValues a_waiting a_records a_calledSets := by
    intro d
    induction d with
    | zero =>
      intro i f lv fl pf hi hf h1 h2
      obtain ⟨f, rfl⟩ : ∃ f', f = f' + 1 := ⟨f - 1, by omega⟩
      have e : i = L := by omega
      subst e
      refine br_t (nI_le (Nat.le_refl _) (by omega)) (nm_e (hpost _ _ _ ⟨fun j hj => ⟨?_, (h1 j hj).2⟩, h2⟩))
      rw [so_b1]
      show upd lv 0 (nI 1) j = nI (if j = 0 then 1 else 0)
      by_cases z : j = 0
      · rw [if_pos z, z, re_us]
      · rw [if_neg z, re_un z]; exact (h1 j hj).1
    | succ d ih =>
      intro i f lv fl pf hi hf h1 h2
      obtain ⟨f, rfl⟩ : ∃ f', f = f' + 1 := ⟨f - 1, by omega⟩
      refine br_f (nI_ge (by omega) (by omega)) ⟨vp_in_nI (by omega) (by omega), nm_e (nm_r (nI_1 i) ?_)⟩
      rw [nI_clamp (by omega)]
      refine ih (i + 1) f lv fl _ (by omega) (by omega) h1 (fun j hj => ?_)
      by_cases z : j = i
      · rw [z, re_us]; rfl
      · rw [re_un z]; exact h2 j (by omega)
  have go1 : ∀ d i f lv fl, i + d = n → d < f → (∀ j, j < i → lv j = nI 0 ∧ fl j = nI 0) → wX_startSolution_2 post f_cellLimit f_callLimit f_closureLimit (nI n) f_holes (nI L) f_stageReached f_grown f_codeLength f_runningEngine f_ending f_callCount f_closureCount f_frame f_waitingCount f (nI i) a_kinds a_operands a_parents a_places a_children a_levels a_nests a_scopes a_nodeLambdas a_lambdaNodes lv fl a_paramFlows a_codeOps a_codeNodes a_codeTargets a_branchSpots a_entries a_frameReturns a_frameValues a_closureLambdas a_closureValues a_waiting a_records a_calledSets := by
    intro d
    induction d with
    | zero =>
      intro i f lv fl hi hf h1
      obtain ⟨f, rfl⟩ : ∃ f', f = f' + 1 := ⟨f - 1, by omega⟩
      have e : i = n := by omega
      subst e
      exact br_t (nI_le (Nat.le_refl _) (by omega)) ⟨L + 1, go2 L 0 (L + 1) lv fl a_paramFlows (by omega) (by omega) h1 (fun j hj => absurd hj (Nat.not_lt_zero j))⟩
    | succ d ih =>
      intro i f lv fl hi hf h1
      obtain ⟨f, rfl⟩ : ∃ f', f = f' + 1 := ⟨f - 1, by omega⟩
      have v : vp_in (nI i) 48 := vp_in_nI (by omega) (by omega)
      refine br_f (nI_ge (by omega) (by omega)) ⟨v, nm_e ⟨v, nm_e (nm_r (nI_1 i) ?_)⟩⟩
      rw [nI_clamp (by omega), so_b0]
      refine ih (i + 1) f _ _ (by omega) (by omega) (fun j hj => ?_)
      by_cases z : j = i
      · rw [z, re_us, re_us]; exact ⟨rfl, rfl⟩
      · rw [re_un z, re_un z]; exact h1 j (by omega)
  exact ⟨n + 1, go1 n 0 (n + 1) a_liveNodes a_nodeFlows (by omega) (by omega) (fun j hj => absurd hj (Nat.not_lt_zero j))⟩
theorem xx_solve {post : Int32 → SX → Prop} {st : Nat} (hst : st ≤ 2) (A : re_A cs n 0 L K P N Lv S O B) (XT : re_X n K P N Lv S O B a_kinds a_operands a_parents a_places a_children a_levels a_nests a_scopes a_nodeLambdas a_lambdaNodes)
    (hpost : ∀ lv fl pf g, so_X n L (re_sol K P B n L) lv fl pf → post (nI (so_n n (re_sol K P B n L))) (f_cellLimit, f_callLimit, f_closureLimit, (nI n), (nI 0), (nI L), (nI (if st = 0 then 1 else st)), g, f_codeLength, f_runningEngine, f_ending, f_callCount, f_closureCount, f_frame, f_waitingCount, a_kinds, a_operands, a_parents, a_places, a_children, a_levels, a_nests, a_scopes, a_nodeLambdas, a_lambdaNodes, lv, fl, pf, a_codeOps, a_codeNodes, a_codeTargets, a_branchSpots, a_entries, a_frameReturns, a_frameValues, a_closureLambdas, a_closureValues, a_waiting, a_records, a_calledSets)) :
    wpX_solve post (f_cellLimit, f_callLimit, f_closureLimit, (nI n), (nI 0), (nI L), (nI st), f_grown, f_codeLength, f_runningEngine, f_ending, f_callCount, f_closureCount, f_frame, f_waitingCount, a_kinds, a_operands, a_parents, a_places, a_children, a_levels, a_nests, a_scopes, a_nodeLambdas, a_lambdaNodes, a_liveNodes, a_nodeFlows, a_paramFlows, a_codeOps, a_codeNodes, a_codeTargets, a_branchSpots, a_entries, a_frameReturns, a_frameValues, a_closureLambdas, a_closureValues, a_waiting, a_records, a_calledSets) := by
  have hn : n ≤ 48 := by have := A.2.2.1; have := A.2.2.2.1; omega
  have hL : L ≤ 16 := A.2.2.2.2.2.1
  have h0 := (re_full A).1
  have T := re_so_T A (re_bd_is (K := K) (n := n))
  have fin : ∀ lv fl pf g, so_X n L (re_sol K P B n L) lv fl pf → wX_solve_45 post f_cellLimit f_callLimit f_closureLimit (nI n) (nI 0) (nI L) (nI st) g f_codeLength f_runningEngine f_ending f_callCount f_closureCount f_frame f_waitingCount a_kinds a_operands a_parents a_places a_children a_levels a_nests a_scopes a_nodeLambdas a_lambdaNodes lv fl pf a_codeOps a_codeNodes a_codeTargets a_branchSpots a_entries a_frameReturns a_frameValues a_closureLambdas a_closureValues a_waiting a_records a_calledSets := fun lv fl pf g X => by
    have hp := hpost lv fl pf g X
    have h01 := (so_sol_R T h0).1
    by_cases z : st = 0
    · rw [if_pos z] at hp
      exact br_t (by rw [z]; rfl) (by unfold wX_solve_57; exact xx_countLive hn h01 X hp)
    · rw [if_neg z] at hp
      exact br_f (nI_ne0 (by omega) (by omega)) (by unfold wX_solve_57; exact xx_countLive hn h01 X hp)
  have go : ∀ d q f g lv fl pf, q + d = 1137 → d < f → (∀ j, j < q → so_G K (tr_e P n) B (tr_lc K) (re_bd K n) L n (so_it (so_G K (tr_e P n) B (tr_lc K) (re_bd K n) L n) so_t0 j) ≠ so_it (so_G K (tr_e P n) B (tr_lc K) (re_bd K n) L n) so_t0 j) → so_X n L (so_it (so_G K (tr_e P n) B (tr_lc K) (re_bd K n) L n) so_t0 q) lv fl pf → g = 1 → wX_solve_21 post f (nI q) f_cellLimit f_callLimit f_closureLimit (nI n) (nI 0) (nI L) (nI st) g f_codeLength f_runningEngine f_ending f_callCount f_closureCount f_frame f_waitingCount a_kinds a_operands a_parents a_places a_children a_levels a_nests a_scopes a_nodeLambdas a_lambdaNodes lv fl pf a_codeOps a_codeNodes a_codeTargets a_branchSpots a_entries a_frameReturns a_frameValues a_closureLambdas a_closureValues a_waiting a_records a_calledSets := by
    intro d
    induction d with
    | zero =>
      intro q f g lv fl pf hq hf hne X hg
      have := so_it_bd T h0 hne
      omega
    | succ d ih =>
      intro q f g lv fl pf hq hf hne X hg
      obtain ⟨f, rfl⟩ : ∃ f', f = f' + 1 := ⟨f - 1, by omega⟩
      have R := so_R_it T h0 q
      subst hg
      refine br_f (nI_ge (b := 10000) (by omega) (by decide)) (br_f (by decide) ?_)
      refine xx_growOnce A XT R X (fun lv1 fl1 pf1 g1 X1 G1 => nm_r (nI_1 q) ?_)
      rcases G1.2.2 with ⟨g0, e⟩ | ⟨g1', ne⟩
      · -- nothing has grown
        obtain ⟨f, rfl⟩ : ∃ f', f = f' + 1 := ⟨f - 1, by omega⟩
        subst g0
        have es : so_it (so_G K (tr_e P n) B (tr_lc K) (re_bd K n) L n) so_t0 q = re_sol K P B n L := so_sol_is T h0 e
        rw [e, es] at X1
        exact br_f (nI_ge (b := 10000) (by omega) (by decide)) (br_t rfl (fin lv1 fl1 pf1 0 X1))
      · refine ih (q + 1) f g1 lv1 fl1 pf1 (by omega) (by omega) (fun j hj => ?_) X1 g1'
        by_cases w : j = q
        · rw [w]; exact ne
        · exact hne j (by omega)
  refine br_t (by decide) (xx_startSolution hn hL h0 (fun lv fl pf X => ⟨1139, ?_⟩))
  exact go 1137 0 1139 1 lv fl pf (by omega) (by omega) (fun j hj => absurd hj (Nat.not_lt_zero j)) X rfl
end
