/-! ===== the class: one node of a pass ===== -/
theorem so_b1 : vp_nar .boolean 1 = nI 1 := by rfl
theorem so_b0 : vp_nar .boolean 0 = nI 0 := by rfl
section
variable {f_cellLimit f_callLimit f_closureLimit f_nodes f_holes f_lambdas f_stageReached f_grown f_codeLength f_runningEngine f_ending f_callCount f_closureCount f_frame f_waitingCount : Int32} {a_kinds a_operands a_parents a_places a_children a_levels a_nests a_scopes a_nodeLambdas a_lambdaNodes a_liveNodes a_nodeFlows a_paramFlows a_codeOps a_codeNodes a_codeTargets a_branchSpots a_entries a_frameReturns a_closureLambdas a_records a_calledSets : Nat → Int32} {a_closureValues a_frameValues a_waiting : Nat → Int64}
variable {cs n L : Nat} {K P N Lv S O B : Nat → Nat} {t0 t : so_S}
theorem xx_addLive {post : SX → Prop} {i : Nat} (hn : n ≤ 48) (hi : i < n) (X : so_X n L t a_liveNodes a_nodeFlows a_paramFlows) (G : so_gr f_grown t0 t) (hpost : ∀ lv g, so_X n L (so_lv t i) lv a_nodeFlows a_paramFlows → so_gr g t0 (so_lv t i) → post (f_cellLimit, f_callLimit, f_closureLimit, f_nodes, f_holes, f_lambdas, f_stageReached, g, f_codeLength, f_runningEngine, f_ending, f_callCount, f_closureCount, f_frame, f_waitingCount, a_kinds, a_operands, a_parents, a_places, a_children, a_levels, a_nests, a_scopes, a_nodeLambdas, a_lambdaNodes, lv, a_nodeFlows, a_paramFlows, a_codeOps, a_codeNodes, a_codeTargets, a_branchSpots, a_entries, a_frameReturns, a_frameValues, a_closureLambdas, a_closureValues, a_waiting, a_records, a_calledSets)) : wpX_addLive post (f_cellLimit, f_callLimit, f_closureLimit, f_nodes, f_holes, f_lambdas, f_stageReached, f_grown, f_codeLength, f_runningEngine, f_ending, f_callCount, f_closureCount, f_frame, f_waitingCount, a_kinds, a_operands, a_parents, a_places, a_children, a_levels, a_nests, a_scopes, a_nodeLambdas, a_lambdaNodes, a_liveNodes, a_nodeFlows, a_paramFlows, a_codeOps, a_codeNodes, a_codeTargets, a_branchSpots, a_entries, a_frameReturns, a_frameValues, a_closureLambdas, a_closureValues, a_waiting, a_records, a_calledSets) (nI i) := by
  have v := vp_in_nI (n := i) (N := 48) (by omega) (by omega)
  refine ⟨v, ?_⟩
  rw [nI_clamp (by omega), (X.1 i hi).1]
  have h1 := G.2.1 i
  by_cases z : t.1 i = 1
  · refine br_f (nI_ne0 (by omega) (by omega)) (hpost a_liveNodes f_grown ?_ ((so_gr_lv G).1 z))
    rw [so_lv_id z]; exact X
  · have z0 : t.1 i = 0 := by omega
    refine br_t (by rw [z0]; rfl) ⟨v, nm_e ?_⟩
    rw [so_b1]
    exact hpost _ _ (so_X_lv X i) ((so_gr_lv G).2 z)
theorem xx_addFlow {post : SX → Prop} {i m : Nat} (hn : n ≤ 48) (hi : i < n) (hm : m < 2 ^ 31) (X : so_X n L t a_liveNodes a_nodeFlows a_paramFlows) (G : so_gr f_grown t0 t) (hpost : ∀ fl g, so_X n L (so_fl t i m) a_liveNodes fl a_paramFlows → so_gr g t0 (so_fl t i m) → post (f_cellLimit, f_callLimit, f_closureLimit, f_nodes, f_holes, f_lambdas, f_stageReached, g, f_codeLength, f_runningEngine, f_ending, f_callCount, f_closureCount, f_frame, f_waitingCount, a_kinds, a_operands, a_parents, a_places, a_children, a_levels, a_nests, a_scopes, a_nodeLambdas, a_lambdaNodes, a_liveNodes, fl, a_paramFlows, a_codeOps, a_codeNodes, a_codeTargets, a_branchSpots, a_entries, a_frameReturns, a_frameValues, a_closureLambdas, a_closureValues, a_waiting, a_records, a_calledSets)) : wpX_addFlow post (f_cellLimit, f_callLimit, f_closureLimit, f_nodes, f_holes, f_lambdas, f_stageReached, f_grown, f_codeLength, f_runningEngine, f_ending, f_callCount, f_closureCount, f_frame, f_waitingCount, a_kinds, a_operands, a_parents, a_places, a_children, a_levels, a_nests, a_scopes, a_nodeLambdas, a_lambdaNodes, a_liveNodes, a_nodeFlows, a_paramFlows, a_codeOps, a_codeNodes, a_codeTargets, a_branchSpots, a_entries, a_frameReturns, a_frameValues, a_closureLambdas, a_closureValues, a_waiting, a_records, a_calledSets) (nI i) (nI m) := by
  have v := vp_in_nI (n := i) (N := 48) (by omega) (by omega)
  refine ⟨v, ?_⟩
  rw [nI_clamp (by omega), (X.1 i hi).2]
  by_cases z : so_sub m (t.2.1 i)
  · refine br_t ((bi_new hm).mpr z) (hpost a_nodeFlows f_grown ?_ ((so_gr_fl G).1 z))
    rw [so_fl_id z]; exact X
  · refine br_f (fun w => z ((bi_new hm).mp w)) ⟨v, v, nm_e ?_⟩
    exact hpost _ _ (so_X_fl X i m (bi_or _ _)) ((so_gr_fl G).2 z)
theorem xx_addParamFlow {post : SX → Prop} {i m : Nat} (hL : L ≤ 16) (hi : i < L) (hm : m < 2 ^ 31) (X : so_X n L t a_liveNodes a_nodeFlows a_paramFlows) (G : so_gr f_grown t0 t) (hpost : ∀ pf g, so_X n L (so_pa t i m) a_liveNodes a_nodeFlows pf → so_gr g t0 (so_pa t i m) → post (f_cellLimit, f_callLimit, f_closureLimit, f_nodes, f_holes, f_lambdas, f_stageReached, g, f_codeLength, f_runningEngine, f_ending, f_callCount, f_closureCount, f_frame, f_waitingCount, a_kinds, a_operands, a_parents, a_places, a_children, a_levels, a_nests, a_scopes, a_nodeLambdas, a_lambdaNodes, a_liveNodes, a_nodeFlows, pf, a_codeOps, a_codeNodes, a_codeTargets, a_branchSpots, a_entries, a_frameReturns, a_frameValues, a_closureLambdas, a_closureValues, a_waiting, a_records, a_calledSets)) : wpX_addParamFlow post (f_cellLimit, f_callLimit, f_closureLimit, f_nodes, f_holes, f_lambdas, f_stageReached, f_grown, f_codeLength, f_runningEngine, f_ending, f_callCount, f_closureCount, f_frame, f_waitingCount, a_kinds, a_operands, a_parents, a_places, a_children, a_levels, a_nests, a_scopes, a_nodeLambdas, a_lambdaNodes, a_liveNodes, a_nodeFlows, a_paramFlows, a_codeOps, a_codeNodes, a_codeTargets, a_branchSpots, a_entries, a_frameReturns, a_frameValues, a_closureLambdas, a_closureValues, a_waiting, a_records, a_calledSets) (nI i) (nI m) := by
  have v := vp_in_nI (n := i) (N := 16) (by omega) (by omega)
  refine ⟨v, ?_⟩
  rw [nI_clamp (by omega), X.2 i hi]
  by_cases z : so_sub m (t.2.2 i)
  · refine br_t ((bi_new hm).mpr z) (hpost a_paramFlows f_grown ?_ ((so_gr_pa G).1 z))
    rw [so_pa_id z]; exact X
  · refine br_f (fun w => z ((bi_new hm).mp w)) ⟨v, v, nm_e ?_⟩
    exact hpost _ _ (so_X_pa X i m (bi_or _ _)) ((so_gr_pa G).2 z)
/-- the loop over the lambdas of a call -/
theorem xx_growCall_l {post : SX → Prop} {m c0 c1 : Nat} {t1 : so_S} (A : re_A cs n 0 L K P N Lv S O B) (XT : re_X n K P N Lv S O B a_kinds a_operands a_parents a_places a_children a_levels a_nests a_scopes a_nodeLambdas a_lambdaNodes) (hm : m < n) (h0 : c0 < n) (h1 : c1 < n) (R : so_R n L t1)
    (hpost : ∀ lv fl pf g, so_X n L (so_lp c0 c1 m (re_bd K n) t1 L) lv fl pf → so_gr g t0 (so_lp c0 c1 m (re_bd K n) t1 L) → post (f_cellLimit, f_callLimit, f_closureLimit, f_nodes, f_holes, (nI L), f_stageReached, g, f_codeLength, f_runningEngine, f_ending, f_callCount, f_closureCount, f_frame, f_waitingCount, a_kinds, a_operands, a_parents, a_places, a_children, a_levels, a_nests, a_scopes, a_nodeLambdas, a_lambdaNodes, lv, fl, pf, a_codeOps, a_codeNodes, a_codeTargets, a_branchSpots, a_entries, a_frameReturns, a_frameValues, a_closureLambdas, a_closureValues, a_waiting, a_records, a_calledSets)) :
    ∀ d l f g lv fl pf, l + d = L → d < f → so_X n L (so_lp c0 c1 m (re_bd K n) t1 l) lv fl pf → so_gr g t0 (so_lp c0 c1 m (re_bd K n) t1 l) → wX_growCall_37 post (nI m) (nI c0) (nI c1) f (nI l) f_cellLimit f_callLimit f_closureLimit f_nodes f_holes (nI L) f_stageReached g f_codeLength f_runningEngine f_ending f_callCount f_closureCount f_frame f_waitingCount a_kinds a_operands a_parents a_places a_children a_levels a_nests a_scopes a_nodeLambdas a_lambdaNodes lv fl pf a_codeOps a_codeNodes a_codeTargets a_branchSpots a_entries a_frameReturns a_frameValues a_closureLambdas a_closureValues a_waiting a_records a_calledSets := by
  obtain ⟨hn, _, hL⟩ : n ≤ 48 ∧ (0 : Nat) ≤ 48 ∧ L ≤ 16 := by
    have := A.2.2.1
    have := A.2.2.2.1
    exact ⟨by omega, by omega, A.2.2.2.2.2.1⟩
  have hLn := A.2.2.2.2.1
  have hbd : ∀ l, l < L → re_bd K n l < n ∧ a_lambdaNodes l = nI (tr_ln K n l) ∧ tr_ln K n l < n ∧ a_children (tr_ln K n l * 3) = nI (re_bd K n l) := fun l hl => by
    obtain ⟨q1, q2, q3⟩ := tr_ln_of (K := K) (n := n) (l := l) (by omega)
    obtain ⟨r1, r2, _⟩ := re_kid0 A XT q1 (by omega)
    have e := XT.2.2.2.2.2.2.2.2 _ q1 q2
    rw [q3] at e
    exact ⟨r1, e, q1, r2⟩
  intro d
  induction d with
  | zero =>
    intro l f g lv fl pf hl hf X G
    obtain ⟨f, rfl⟩ : ∃ f', f = f' + 1 := ⟨f - 1, by omega⟩
    have e : l = L := by omega
    subst e
    exact br_t (nI_le (Nat.le_refl _) (by omega)) (hpost lv fl pf g X G)
  | succ d ih =>
    intro l f g lv fl pf hl hf X G
    obtain ⟨f, rfl⟩ : ∃ f', f = f' + 1 := ⟨f - 1, by omega⟩
    have Rl := so_R_lp (c0 := c0) (c1 := c1) (m := m) (bd := re_bd K n) R hm (fun l hl => (hbd l hl).1) l (by omega)
    have ms := fun i => so_ms_lt hL (Rl.2.2.2.1 i)
    obtain ⟨b1, b2, b3, b4⟩ := hbd l (by omega)
    refine br_f (nI_ge (by omega) (by omega)) ⟨vp_in_nI (by omega) (by omega), ?_⟩
    rw [nI_clamp (by omega), (X.1 c0 h0).2]
    have step : so_lp c0 c1 m (re_bd K n) t1 (l + 1) = so_st c0 c1 m (re_bd K n) (so_lp c0 c1 m (re_bd K n) t1 l) l := rfl
    have m0 := ms c0
    have m1 := ms c1
    have mb := ms (re_bd K n l)
    cases z : ((so_lp c0 c1 m (re_bd K n) t1 l).2.1 c0).testBit l with
    | false =>
      refine br_t ((bi_test (by omega) (by omega)).mpr z) (nm_r (nI_1 l) ?_)
      have e : so_lp c0 c1 m (re_bd K n) t1 (l + 1) = so_lp c0 c1 m (re_bd K n) t1 l := by
        rw [step]
        unfold so_st
        rw [if_neg (by rw [z]; decide)]
      exact ih (l + 1) f g lv fl pf (by omega) (by omega) (by rw [e]; exact X) (by rw [e]; exact G)
    | true =>
      have e : so_lp c0 c1 m (re_bd K n) t1 (l + 1) = so_fl (so_pa (so_lv (so_lp c0 c1 m (re_bd K n) t1 l) (re_bd K n l)) l ((so_lp c0 c1 m (re_bd K n) t1 l).2.1 c1)) m ((so_lp c0 c1 m (re_bd K n) t1 l).2.1 (re_bd K n l)) := by
        rw [step]
        unfold so_st
        rw [if_pos z]
      refine br_f (fun w => by rw [(bi_test (by omega) (by omega)).mp w] at z; cases z) ?_
      refine xx_bodyOf (by omega) (by omega) b2 ?_
      rw [b4]
      refine xx_addLive hn b1 X G (fun lv1 g1 X1 G1 => ⟨vp_in_nI (by omega) (by omega), ?_⟩)
      rw [nI_clamp (n := c1) (by omega), (X.1 c1 h1).2]
      refine xx_addParamFlow hL (by omega) (by omega) X1 G1 (fun pf2 g2 X2 G2 => ⟨vp_in_nI (by omega) (by omega), ?_⟩)
      rw [nI_clamp (n := re_bd K n l) (by omega), (X.1 _ b1).2]
      refine xx_addFlow hn hm (by omega) X2 G2 (fun fl3 g3 X3 G3 => nm_r (nI_1 l) ?_)
      exact ih (l + 1) f g3 lv1 fl3 pf2 (by omega) (by omega) (by rw [e]; exact X3) (by rw [e]; exact G3)
/-- a node of a pass -/
theorem xx_growNode {post : SX → Prop} {m : Nat} (A : re_A cs n 0 L K P N Lv S O B) (XT : re_X n K P N Lv S O B a_kinds a_operands a_parents a_places a_children a_levels a_nests a_scopes a_nodeLambdas a_lambdaNodes) (hm : m < n) (R : so_R n L t) (X : so_X n L t a_liveNodes a_nodeFlows a_paramFlows) (G : so_gr f_grown t0 t)
    (hpost : ∀ lv fl pf g, so_X n L (so_g K (tr_e P n) B (tr_lc K) (re_bd K n) L t m) lv fl pf → so_gr g t0 (so_g K (tr_e P n) B (tr_lc K) (re_bd K n) L t m) → post (f_cellLimit, f_callLimit, f_closureLimit, (nI n), f_holes, (nI L), f_stageReached, g, f_codeLength, f_runningEngine, f_ending, f_callCount, f_closureCount, f_frame, f_waitingCount, a_kinds, a_operands, a_parents, a_places, a_children, a_levels, a_nests, a_scopes, a_nodeLambdas, a_lambdaNodes, lv, fl, pf, a_codeOps, a_codeNodes, a_codeTargets, a_branchSpots, a_entries, a_frameReturns, a_frameValues, a_closureLambdas, a_closureValues, a_waiting, a_records, a_calledSets)) :
    wpX_growNode post (f_cellLimit, f_callLimit, f_closureLimit, (nI n), f_holes, (nI L), f_stageReached, f_grown, f_codeLength, f_runningEngine, f_ending, f_callCount, f_closureCount, f_frame, f_waitingCount, a_kinds, a_operands, a_parents, a_places, a_children, a_levels, a_nests, a_scopes, a_nodeLambdas, a_lambdaNodes, a_liveNodes, a_nodeFlows, a_paramFlows, a_codeOps, a_codeNodes, a_codeTargets, a_branchSpots, a_entries, a_frameReturns, a_frameValues, a_closureLambdas, a_closureValues, a_waiting, a_records, a_calledSets) (nI m) := by
  have hn : n ≤ 48 := by have := A.2.2.1; have := A.2.2.2.1; omega
  have hL : L ≤ 16 := A.2.2.2.2.2.1
  have hLn := A.2.2.2.2.1
  have k6 := (A.2.2.2.2.2.2.2.2.2.1 m hm).1
  have vm : vp_in (nI m) 48 := vp_in_nI (by omega) (by omega)
  have hcm := nI_clamp (n := m) (by omega)
  have ms := fun i => so_ms_lt hL (R.2.2.2.1 i)
  have mp := fun i => so_ms_lt hL (R.2.2.2.2 i)
  have x8 := XT.2.2.2.2.2.2.2.1 m hm
  have hc : K m = 0 ∨ K m = 1 ∨ K m = 2 ∨ K m = 3 ∨ K m = 4 ∨ K m = 5 ∨ K m = 6 := by omega
  have arith : 4 ≤ K m → K m ≠ 6 → wX_growNode_109 post (nI m) f_cellLimit f_callLimit f_closureLimit (nI n) f_holes (nI L) f_stageReached f_grown f_codeLength f_runningEngine f_ending f_callCount f_closureCount f_frame f_waitingCount a_kinds a_operands a_parents a_places a_children a_levels a_nests a_scopes a_nodeLambdas a_lambdaNodes a_liveNodes a_nodeFlows a_paramFlows a_codeOps a_codeNodes a_codeTargets a_branchSpots a_entries a_frameReturns a_frameValues a_closureLambdas a_closureValues a_waiting a_records a_calledSets := fun ka kb => by
    obtain ⟨r1, r2, _⟩ := re_kid0 A XT hm (by omega)
    obtain ⟨s1, s2, _⟩ := re_kid1 A XT hm (by omega)
    have e : so_g K (tr_e P n) B (tr_lc K) (re_bd K n) L t m = so_fl (so_lv (so_lv t (m + 1)) (tr_e P n (m + 1))) m (t.2.1 (m + 1) &&& t.2.1 (tr_e P n (m + 1)) &&& 65536) := by
      unfold so_g
      rw [if_neg (by omega), if_neg (by omega), if_neg (by omega), if_neg kb, if_neg (by omega)]
    rw [e] at hpost
    unfold wX_growNode_109 wpX_growArithmetic
    refine xx_childAt (k := 0) (by omega) (by omega) ?_
    rw [r2]
    refine xx_childAt (k := 1) (by omega) (by omega) ?_
    rw [s2]
    refine xx_addLive hn r1 X G (fun lv1 g1 X1 G1 => ?_)
    refine xx_addLive hn s1 X1 G1 (fun lv2 g2 X2 G2 => ⟨vp_in_nI (by omega) (by omega), vp_in_nI (by omega) (by omega), ?_⟩)
    have m1 := ms (m + 1)
    rw [nI_clamp (by omega), nI_clamp (by omega), (X.1 _ r1).2, (X.1 _ s1).2, bi_and, show (65536 : Int32) = nI 65536 from rfl, bi_and]
    refine xx_addFlow hn hm ?_ X2 G2 (fun fl3 g3 X3 G3 => hpost lv2 fl3 a_paramFlows g3 X3 G3)
    exact Nat.lt_of_le_of_lt (Nat.le_trans Nat.and_le_left Nat.and_le_left) (by omega)
  refine ⟨vm, ?_⟩
  rw [hcm]
  refine nm_r (XT.1 m hm) ?_
  rcases hc with k | k | k | k | k | k | k
  · -- VAR
    have e : so_g K (tr_e P n) B (tr_lc K) (re_bd K n) L t m = so_fl t m (t.2.2 (B m)) := by
      unfold so_g
      rw [if_pos k]
    rw [e] at hpost
    have hB : B m < L := by
      obtain ⟨a1, b, b1, b2, b3, b4, b5⟩ := A.2.2.2.2.2.2.2.2.2.2 m hm k
      rw [b4, hLn]
      exact tr_lc_lt (by omega) b2
    rw [k]
    refine br_f (by decide) (br_f (by decide) (br_t rfl ⟨vm, ?_⟩))
    rw [x8.1 k, nI_clamp (by omega), X.2 _ hB]
    have := mp (B m)
    exact ⟨vp_in_nI (by omega) (by omega), xx_addFlow hn hm (by omega) X G (fun fl g X1 G1 => hpost a_liveNodes fl a_paramFlows g X1 G1)⟩
  · -- NUM
    have e : so_g K (tr_e P n) B (tr_lc K) (re_bd K n) L t m = so_fl t m 65536 := by
      unfold so_g
      rw [if_neg (by omega), if_pos k]
    rw [e] at hpost
    rw [k]
    refine br_f (by decide) (br_f (by decide) (br_f (by decide) (br_t rfl ?_)))
    exact xx_addFlow (m := 65536) hn hm (by decide) X G (fun fl g X1 G1 => hpost a_liveNodes fl a_paramFlows g X1 G1)
  · -- LAM
    have e : so_g K (tr_e P n) B (tr_lc K) (re_bd K n) L t m = so_fl t m (2 ^ tr_lc K m) := by
      unfold so_g
      rw [if_neg (by omega), if_neg (by omega), if_pos k]
    rw [e] at hpost
    have hlc : tr_lc K m < L := by rw [hLn]; exact tr_lc_lt hm k
    have hpw : 2 ^ tr_lc K m < 2 ^ 16 := Nat.pow_lt_pow_right (by decide) (by omega)
    rw [k]
    refine br_f (by decide) (br_f (by decide) (br_f (by decide) (br_f (by decide) (br_t rfl ⟨vm, ?_⟩))))
    rw [x8.2.1 k, bi_shl _ (by omega)]
    exact xx_addFlow hn hm (by omega) X G (fun fl g X1 G1 => hpost a_liveNodes fl a_paramFlows g X1 G1)
  · -- APP
    rw [k]
    refine br_f (by decide) (br_f (by decide) (br_f (by decide) (br_f (by decide) (br_f (by decide) (br_t rfl ?_)))))
    obtain ⟨r1, r2, _⟩ := re_kid0 A XT hm (by omega)
    obtain ⟨s1, s2, _⟩ := re_kid1 A XT hm (by omega)
    have e : so_g K (tr_e P n) B (tr_lc K) (re_bd K n) L t m = (if t.2.1 (tr_e P n (m + 1)) = 0 then so_lv (so_lv t (m + 1)) (tr_e P n (m + 1)) else so_lp (m + 1) (tr_e P n (m + 1)) m (re_bd K n) (so_lv (so_lv t (m + 1)) (tr_e P n (m + 1))) L) := by
      unfold so_g
      rw [if_neg (by omega), if_neg (by omega), if_neg (by omega), if_neg (by omega), if_pos k]
    rw [e] at hpost
    unfold wpX_growCall
    refine xx_childAt (k := 0) (by omega) (by omega) ?_
    rw [r2]
    refine xx_childAt (k := 1) (by omega) (by omega) ?_
    rw [s2]
    refine xx_addLive hn r1 X G (fun lv1 g1 X1 G1 => ?_)
    refine xx_addLive hn s1 X1 G1 (fun lv2 g2 X2 G2 => ⟨vp_in_nI (by omega) (by omega), ?_⟩)
    have m1 := ms (tr_e P n (m + 1))
    rw [nI_clamp (by omega), (X.1 _ s1).2]
    by_cases z : t.2.1 (tr_e P n (m + 1)) = 0
    · rw [if_pos z] at hpost
      rw [z]
      exact br_t rfl (hpost lv2 a_nodeFlows a_paramFlows g2 X2 G2)
    · rw [if_neg z] at hpost
      refine br_f (nI_ne0 (by omega) (by omega)) ⟨L + 1, ?_⟩
      exact xx_growCall_l A XT hm r1 s1 (so_R_lv (so_R_lv R r1) s1) hpost L 0 (L + 1) g2 lv2 a_nodeFlows a_paramFlows (by omega) (by omega) X2 G2
  · -- ADD
    have ar := arith (by omega) (by omega)
    rw [k]
    exact br_f (by decide) (br_f (by decide) (br_f (by decide) (br_f (by decide) (br_f (by decide) (br_f (by decide) (br_t rfl ar))))))
  · -- SUB
    have ar := arith (by omega) (by omega)
    rw [k]
    exact br_f (by decide) (br_f (by decide) (br_f (by decide) (br_f (by decide) (br_f (by decide) (br_f (by decide) (br_f (by decide) (br_t rfl ar)))))))
  · -- IF0
    rw [k]
    refine br_f (by decide) (br_f (by decide) (br_f (by decide) (br_f (by decide) (br_f (by decide) (br_f (by decide) (br_f (by decide) (br_f (by decide) (br_t rfl ?_))))))))
    obtain ⟨r1, r2, _⟩ := re_kid0 A XT hm (by omega)
    obtain ⟨s1, s2, _⟩ := re_kid1 A XT hm (by omega)
    obtain ⟨w1, w2, _⟩ := re_kid2 A XT hm k
    have e : so_g K (tr_e P n) B (tr_lc K) (re_bd K n) L t m = (if (t.2.1 (m + 1)).testBit 16 = true then so_fl (so_lv (so_lv (so_lv t (m + 1)) (tr_e P n (m + 1))) (tr_e P n (tr_e P n (m + 1)))) m (t.2.1 (tr_e P n (m + 1)) ||| t.2.1 (tr_e P n (tr_e P n (m + 1)))) else so_lv t (m + 1)) := by
      unfold so_g
      rw [if_neg (by omega), if_neg (by omega), if_neg (by omega), if_pos k]
    rw [e] at hpost
    unfold wpX_growBranches
    refine xx_childAt (k := 0) (by omega) (by omega) ?_
    rw [r2]
    refine xx_addLive hn r1 X G (fun lv1 g1 X1 G1 => ⟨vp_in_nI (by omega) (by omega), ?_⟩)
    have m1 := ms (m + 1)
    have m2 := ms (tr_e P n (m + 1))
    have m3 := ms (tr_e P n (tr_e P n (m + 1)))
    rw [nI_clamp (by omega), (X.1 _ r1).2]
    cases z : (t.2.1 (m + 1)).testBit 16 with
    | false =>
      rw [if_neg (by rw [z]; decide)] at hpost
      exact br_t ((bi_16 (by omega)).mpr z) (hpost lv1 a_nodeFlows a_paramFlows g1 X1 G1)
    | true =>
      rw [if_pos z] at hpost
      refine br_f (fun w => by rw [(bi_16 (by omega)).mp w] at z; cases z) ?_
      refine xx_childAt (k := 1) (by omega) (by omega) ?_
      rw [s2]
      refine xx_childAt (k := 2) (by omega) (by omega) ?_
      rw [w2]
      refine xx_addLive hn s1 X1 G1 (fun lv2 g2 X2 G2 => ?_)
      refine xx_addLive hn w1 X2 G2 (fun lv3 g3 X3 G3 => ⟨vp_in_nI (by omega) (by omega), vp_in_nI (by omega) (by omega), ?_⟩)
      rw [nI_clamp (by omega), nI_clamp (by omega), (X.1 _ s1).2, (X.1 _ w1).2, bi_or]
      refine xx_addFlow hn hm ?_ X3 G3 (fun fl4 g4 X4 G4 => hpost lv3 fl4 a_paramFlows g4 X4 G4)
      have : t.2.1 (tr_e P n (m + 1)) ||| t.2.1 (tr_e P n (tr_e P n (m + 1))) < 2 ^ 17 := Nat.or_lt_two_pow m2 m3
      omega
end
