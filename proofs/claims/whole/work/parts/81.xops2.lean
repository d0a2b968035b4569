/-! ===== the class: branches, sums, calls, returns, the end ===== -/
section
variable {f_cellLimit f_callLimit f_closureLimit f_nodes f_holes f_lambdas f_stageReached f_grown f_codeLength f_runningEngine f_ending f_callCount f_closureCount f_frame f_waitingCount : Int32} {a_kinds a_operands a_parents a_places a_children a_levels a_nests a_scopes a_nodeLambdas a_lambdaNodes a_liveNodes a_nodeFlows a_paramFlows a_codeOps a_codeNodes a_codeTargets a_branchSpots a_entries a_frameReturns a_closureLambdas a_records a_calledSets : Nat → Int32} {a_closureValues a_frameValues a_waiting : Nat → Int64}
variable {cs n L cl cm E f w c : Nat} {K P N Lv S O B nn : Nat → Nat} {old : Nat → Int32} {s : ev_S} {F : Nat → Nat → ev_V} {R : Nat → Nat} {W : Nat → ev_V}
theorem xo_if {post : Int32 → SX → Prop} {m : Int32} {a b : Int32} (i : Int32) (hw : w < 294) (H : xr_P (tr_lc K) N nn c (s, f, F, R, w + 1, am_pw W w (.inl i)) f_callCount f_closureCount a_closureLambdas a_closureValues f_frame a_frameReturns a_frameValues f_waitingCount a_waiting) (hp : ∀ wc, xr_P (tr_lc K) N nn c (s, f, F, R, w, W) f_callCount f_closureCount a_closureLambdas a_closureValues f_frame a_frameReturns a_frameValues wc a_waiting → post (if i = 0 then a else b) (f_cellLimit, f_callLimit, f_closureLimit, f_nodes, f_holes, f_lambdas, f_stageReached, f_grown, f_codeLength, f_runningEngine, f_ending, f_callCount, f_closureCount, f_frame, wc, a_kinds, a_operands, a_parents, a_places, a_children, a_levels, a_nests, a_scopes, a_nodeLambdas, a_lambdaNodes, a_liveNodes, a_nodeFlows, a_paramFlows, a_codeOps, a_codeNodes, a_codeTargets, a_branchSpots, a_entries, a_frameReturns, a_frameValues, a_closureLambdas, a_closureValues, a_waiting, a_records, a_calledSets)) : wpX_branch post (f_cellLimit, f_callLimit, f_closureLimit, f_nodes, f_holes, f_lambdas, f_stageReached, f_grown, f_codeLength, f_runningEngine, f_ending, f_callCount, f_closureCount, f_frame, f_waitingCount, a_kinds, a_operands, a_parents, a_places, a_children, a_levels, a_nests, a_scopes, a_nodeLambdas, a_lambdaNodes, a_liveNodes, a_nodeFlows, a_paramFlows, a_codeOps, a_codeNodes, a_codeTargets, a_branchSpots, a_entries, a_frameReturns, a_frameValues, a_closureLambdas, a_closureValues, a_waiting, a_records, a_calledSets) m a b := by
  obtain ⟨h6, h7, h8⟩ := xr_pop H
  subst h6
  unfold wpX_branch
  refine xo_pop hw ?_
  rw [h7]
  refine xo_isN i (br_t rfl ?_)
  have hh := hp _ (h8 _ rfl)
  by_cases z : i = 0
  · rw [if_pos z] at hh
    exact br_t ((bi_z i).mpr z) hh
  · rw [if_neg z] at hh
    exact br_f (fun e => z ((bi_z i).mp e)) hh
theorem xo_ifS {post : Int32 → SX → Prop} {m a b : Nat} {k : Nat} (hE : E < 2) (hw : w < 294) (hk : k < 64) (H : xr_P (tr_lc K) N nn c (s, f, F, R, w + 1, am_pw W w (.inr k)) f_callCount f_closureCount a_closureLambdas a_closureValues f_frame a_frameReturns a_frameValues f_waitingCount a_waiting) (hp : ∀ r wc, post r (f_cellLimit, f_callLimit, f_closureLimit, f_nodes, f_holes, f_lambdas, f_stageReached, f_grown, f_codeLength, (nI E), (nI 3), (nI s.1), (nI s.2.1), f_frame, wc, a_kinds, a_operands, a_parents, a_places, a_children, a_levels, a_nests, a_scopes, a_nodeLambdas, a_lambdaNodes, a_liveNodes, a_nodeFlows, a_paramFlows, a_codeOps, a_codeNodes, a_codeTargets, a_branchSpots, a_entries, a_frameReturns, a_frameValues, a_closureLambdas, a_closureValues, a_waiting, (ru_r E a_records (nI 3) (nI 0) (nI m) (nI s.1) (nI s.2.1)), a_calledSets)) : wpX_branch post (f_cellLimit, f_callLimit, f_closureLimit, f_nodes, f_holes, f_lambdas, f_stageReached, f_grown, f_codeLength, (nI E), f_ending, f_callCount, f_closureCount, f_frame, f_waitingCount, a_kinds, a_operands, a_parents, a_places, a_children, a_levels, a_nests, a_scopes, a_nodeLambdas, a_lambdaNodes, a_liveNodes, a_nodeFlows, a_paramFlows, a_codeOps, a_codeNodes, a_codeTargets, a_branchSpots, a_entries, a_frameReturns, a_frameValues, a_closureLambdas, a_closureValues, a_waiting, a_records, a_calledSets) (nI m) (nI a) (nI b) := by
  obtain ⟨h6, h7, h8⟩ := xr_pop H
  have h1 : f_callCount = nI s.1 := H.1.1
  have h1b : f_closureCount = nI s.2.1 := H.1.2.1
  subst h6 h1 h1b
  unfold wpX_branch
  refine xo_pop hw ?_
  rw [h7]
  refine xo_isC hk (br_f (by decide) (xo_endRun (p0 := nI 3) (p1 := nI 0) (p2 := nI m) hE ?_))
  exact br_c (fun _ => hp _ _) (fun _ => hp _ _)
theorem xo_sum {post : SX → Prop} {m : Nat} (A : re_A cs n 0 L K P N Lv S O B) (XT : re_X n K P N Lv S O B a_kinds a_operands a_parents a_places a_children a_levels a_nests a_scopes a_nodeLambdas a_lambdaNodes) (hm : m < n) (k : K m = 4 ∨ K m = 5) (i j : Int32) (hw : w + 1 < 294) (H : xr_P (tr_lc K) N nn c (s, f, F, R, w + 2, am_pw (am_pw W w (.inl i)) (w + 1) (.inl j)) f_callCount f_closureCount a_closureLambdas a_closureValues f_frame a_frameReturns a_frameValues f_waitingCount a_waiting) (hp : ∀ wc wt, xr_P (tr_lc K) N nn c (s, f, F, R, w + 1, am_pw W w (.inl (if K m = 4 then i + j else i - j))) f_callCount f_closureCount a_closureLambdas a_closureValues f_frame a_frameReturns a_frameValues wc wt → post (f_cellLimit, f_callLimit, f_closureLimit, f_nodes, f_holes, f_lambdas, f_stageReached, f_grown, f_codeLength, f_runningEngine, f_ending, f_callCount, f_closureCount, f_frame, wc, a_kinds, a_operands, a_parents, a_places, a_children, a_levels, a_nests, a_scopes, a_nodeLambdas, a_lambdaNodes, a_liveNodes, a_nodeFlows, a_paramFlows, a_codeOps, a_codeNodes, a_codeTargets, a_branchSpots, a_entries, a_frameReturns, a_frameValues, a_closureLambdas, a_closureValues, wt, a_records, a_calledSets)) : wpX_combine post (f_cellLimit, f_callLimit, f_closureLimit, f_nodes, f_holes, f_lambdas, f_stageReached, f_grown, f_codeLength, f_runningEngine, f_ending, f_callCount, f_closureCount, f_frame, f_waitingCount, a_kinds, a_operands, a_parents, a_places, a_children, a_levels, a_nests, a_scopes, a_nodeLambdas, a_lambdaNodes, a_liveNodes, a_nodeFlows, a_paramFlows, a_codeOps, a_codeNodes, a_codeTargets, a_branchSpots, a_entries, a_frameReturns, a_frameValues, a_closureLambdas, a_closureValues, a_waiting, a_records, a_calledSets) (nI m) := by
  have hn : n ≤ 48 := by have := A.2.2.1; have := A.2.2.2.1; omega
  obtain ⟨h6, h7, h8⟩ := xr_pop (w := w + 1) H
  obtain ⟨_, g7, g8⟩ := xr_pop (h8 _ rfl)
  subst h6
  unfold wpX_combine
  refine xo_pop (w := w + 1) (by omega) (xo_pop (w := w) (by omega) ?_)
  rw [h7, g7]
  refine xo_isN i (br_t rfl (xo_isN j (br_t rfl ⟨vp_in_nI (by omega) (by omega), ?_⟩)))
  rw [nI_clamp (by omega), XT.1 m hm]
  have e1 : (bi_enc (.inl i)).toInt32 = i := bi_i i
  have e2 : (bi_enc (.inl j)).toInt32 = j := bi_i j
  rw [e1, e2]
  by_cases q : K m = 4
  · rw [if_pos q] at hp
    refine br_t (by rw [q]; rfl) ?_
    unfold wX_combine_60
    exact xo_num (i + j) (by omega) (g8 _ rfl) hp
  · rw [if_neg q] at hp
    refine br_f (fun e => q ((nI_eq (b := 4) (by omega) (by decide)).mp e)) ?_
    unfold wX_combine_60
    exact xo_num (i - j) (by omega) (g8 _ rfl) hp
theorem xo_sumS {post : SX → Prop} {m : Nat} (hE : E < 2) (h64 : s.2.1 ≤ 64) {v x : ev_V} (hw : w + 1 < 294) (ov : ev_ok s.2.1 v) (ox : ev_ok s.2.1 x) (hs : (∃ k, v = .inr k) ∨ (∃ k, x = .inr k)) (H : xr_P (tr_lc K) N nn c (s, f, F, R, w + 2, am_pw (am_pw W w v) (w + 1) x) f_callCount f_closureCount a_closureLambdas a_closureValues f_frame a_frameReturns a_frameValues f_waitingCount a_waiting) (hp : ∀ wc, post (f_cellLimit, f_callLimit, f_closureLimit, f_nodes, f_holes, f_lambdas, f_stageReached, f_grown, f_codeLength, (nI E), (nI 3), (nI s.1), (nI s.2.1), f_frame, wc, a_kinds, a_operands, a_parents, a_places, a_children, a_levels, a_nests, a_scopes, a_nodeLambdas, a_lambdaNodes, a_liveNodes, a_nodeFlows, a_paramFlows, a_codeOps, a_codeNodes, a_codeTargets, a_branchSpots, a_entries, a_frameReturns, a_frameValues, a_closureLambdas, a_closureValues, a_waiting, (ru_r E a_records (nI 3) (nI 0) (nI m) (nI s.1) (nI s.2.1)), a_calledSets)) : wpX_combine post (f_cellLimit, f_callLimit, f_closureLimit, f_nodes, f_holes, f_lambdas, f_stageReached, f_grown, f_codeLength, (nI E), f_ending, f_callCount, f_closureCount, f_frame, f_waitingCount, a_kinds, a_operands, a_parents, a_places, a_children, a_levels, a_nests, a_scopes, a_nodeLambdas, a_lambdaNodes, a_liveNodes, a_nodeFlows, a_paramFlows, a_codeOps, a_codeNodes, a_codeTargets, a_branchSpots, a_entries, a_frameReturns, a_frameValues, a_closureLambdas, a_closureValues, a_waiting, a_records, a_calledSets) (nI m) := by
  obtain ⟨h6, h7, h8⟩ := xr_pop (w := w + 1) H
  obtain ⟨_, g7, g8⟩ := xr_pop (h8 _ rfl)
  have h1 : f_callCount = nI s.1 := H.1.1
  have h1b : f_closureCount = nI s.2.1 := H.1.2.1
  subst h6 h1 h1b
  unfold wpX_combine
  refine xo_pop (w := w + 1) (by omega) (xo_pop (w := w) (by omega) ?_)
  rw [h7, g7]
  have st : wX_combine_26 post (nI m) f_cellLimit f_callLimit f_closureLimit f_nodes f_holes f_lambdas f_stageReached f_grown f_codeLength (nI E) f_ending (nI s.1) (nI s.2.1) f_frame (nI w) a_kinds a_operands a_parents a_places a_children a_levels a_nests a_scopes a_nodeLambdas a_lambdaNodes a_liveNodes a_nodeFlows a_paramFlows a_codeOps a_codeNodes a_codeTargets a_branchSpots a_entries a_frameReturns a_frameValues a_closureLambdas a_closureValues a_waiting a_records a_calledSets := by
    unfold wX_combine_26
    exact xo_endRun (p0 := nI 3) (p1 := nI 0) (p2 := nI m) hE (hp _)
  rcases v with i | k
  · refine xo_isN i (br_t rfl ?_)
    rcases x with j | k
    · rcases hs with ⟨k, e⟩ | ⟨k, e⟩
      · cases e
      · cases e
    · have := ox k rfl
      exact xo_isC (by omega) (br_f (by decide) st)
  · have := ov k rfl
    exact xo_isC (by omega) (br_f (by decide) st)
theorem xo_appS {post : Int32 → SX → Prop} {m : Nat} {z : Int32} (hE : E < 2) (i : Int32) (x : ev_V) (hw : w + 1 < 294) (H : xr_P (tr_lc K) N nn c (s, f, F, R, w + 2, am_pw (am_pw W w (.inl i)) (w + 1) x) f_callCount f_closureCount a_closureLambdas a_closureValues f_frame a_frameReturns a_frameValues f_waitingCount a_waiting) (hp : ∀ wc, post (-1) (f_cellLimit, f_callLimit, f_closureLimit, f_nodes, f_holes, f_lambdas, f_stageReached, f_grown, f_codeLength, (nI E), (nI 3), (nI s.1), (nI s.2.1), f_frame, wc, a_kinds, a_operands, a_parents, a_places, a_children, a_levels, a_nests, a_scopes, a_nodeLambdas, a_lambdaNodes, a_liveNodes, a_nodeFlows, a_paramFlows, a_codeOps, a_codeNodes, a_codeTargets, a_branchSpots, a_entries, a_frameReturns, a_frameValues, a_closureLambdas, a_closureValues, a_waiting, (ru_r E a_records (nI 3) (nI 0) (nI m) (nI s.1) (nI s.2.1)), a_calledSets)) : wpX_enterCall post (f_cellLimit, f_callLimit, f_closureLimit, f_nodes, f_holes, f_lambdas, f_stageReached, f_grown, f_codeLength, (nI E), f_ending, f_callCount, f_closureCount, f_frame, f_waitingCount, a_kinds, a_operands, a_parents, a_places, a_children, a_levels, a_nests, a_scopes, a_nodeLambdas, a_lambdaNodes, a_liveNodes, a_nodeFlows, a_paramFlows, a_codeOps, a_codeNodes, a_codeTargets, a_branchSpots, a_entries, a_frameReturns, a_frameValues, a_closureLambdas, a_closureValues, a_waiting, a_records, a_calledSets) (nI m) z := by
  obtain ⟨h6, h7, h8⟩ := xr_pop (w := w + 1) H
  obtain ⟨_, g7, g8⟩ := xr_pop (h8 _ rfl)
  have h1 : f_callCount = nI s.1 := H.1.1
  have h1b : f_closureCount = nI s.2.1 := H.1.2.1
  subst h6 h1 h1b
  unfold wpX_enterCall
  refine xo_pop (w := w + 1) (by omega) (xo_pop (w := w) (by omega) ?_)
  rw [g7]
  exact xo_isN i (br_t rfl (xo_endRun (p0 := nI 3) (p1 := nI 0) (p2 := nI m) hE (hp _)))
theorem xo_appC {post : Int32 → SX → Prop} {m k : Nat} {z : Int32} (hE : E < 2) (h64 : s.2.1 ≤ 64) (hk : k < s.2.1) (hc : s.1 = cl) (x : ev_V) (hw : w + 1 < 294) (H : xr_P (tr_lc K) N nn c (s, f, F, R, w + 2, am_pw (am_pw W w (.inr k)) (w + 1) x) f_callCount f_closureCount a_closureLambdas a_closureValues f_frame a_frameReturns a_frameValues f_waitingCount a_waiting) (hp : ∀ wc, post (-1) (f_cellLimit, (nI cl), f_closureLimit, f_nodes, f_holes, f_lambdas, f_stageReached, f_grown, f_codeLength, (nI E), (nI 4), (nI s.1), (nI s.2.1), f_frame, wc, a_kinds, a_operands, a_parents, a_places, a_children, a_levels, a_nests, a_scopes, a_nodeLambdas, a_lambdaNodes, a_liveNodes, a_nodeFlows, a_paramFlows, a_codeOps, a_codeNodes, a_codeTargets, a_branchSpots, a_entries, a_frameReturns, a_frameValues, a_closureLambdas, a_closureValues, a_waiting, (ru_r E a_records (nI 4) (nI 0) (nI m) (nI s.1) (nI s.2.1)), a_calledSets)) : wpX_enterCall post (f_cellLimit, (nI cl), f_closureLimit, f_nodes, f_holes, f_lambdas, f_stageReached, f_grown, f_codeLength, (nI E), f_ending, f_callCount, f_closureCount, f_frame, f_waitingCount, a_kinds, a_operands, a_parents, a_places, a_children, a_levels, a_nests, a_scopes, a_nodeLambdas, a_lambdaNodes, a_liveNodes, a_nodeFlows, a_paramFlows, a_codeOps, a_codeNodes, a_codeTargets, a_branchSpots, a_entries, a_frameReturns, a_frameValues, a_closureLambdas, a_closureValues, a_waiting, a_records, a_calledSets) (nI m) z := by
  obtain ⟨h6, h7, h8⟩ := xr_pop (w := w + 1) H
  obtain ⟨_, g7, g8⟩ := xr_pop (h8 _ rfl)
  have h1 : f_callCount = nI s.1 := H.1.1
  have h1b : f_closureCount = nI s.2.1 := H.1.2.1
  subst h6 h1 h1b
  unfold wpX_enterCall
  refine xo_pop (w := w + 1) (by omega) (xo_pop (w := w) (by omega) ?_)
  rw [g7]
  exact xo_isC (by omega) (br_f (by decide) (br_t (by rw [hc]) (xo_endRun (p0 := nI 4) (p1 := nI 0) (p2 := nI m) hE (hp _))))
theorem xo_app {post : Int32 → SX → Prop} {m k z : Nat} (A : re_A cs n 0 L K P N Lv S O B) (XT : re_X n K P N Lv S O B a_kinds a_operands a_parents a_places a_children a_levels a_nests a_scopes a_nodeLambdas a_lambdaNodes) (hE : E < 2) (hcl : cl ≤ 48) (h64 : cm ≤ 64) (hm : m < n) (hf : f < 48) (Wf : ev_W K N n cl cm s) (hk : k < s.2.1) (hc : s.1 ≠ cl) (x : ev_V) (hw : w + 1 < 294) (hz : nn z = nn c) (H : xr_P (tr_lc K) N nn c (s, f, F, R, w + 2, am_pw (am_pw W w (.inr k)) (w + 1) x) f_callCount f_closureCount a_closureLambdas a_closureValues f_frame a_frameReturns a_frameValues f_waitingCount a_waiting)
    (hp : ∀ ca fr wc ret fv, (∀ c', nn c' = N (s.2.2.1 k) + 1 → xr_P (tr_lc K) N nn c' (ev_call (ru_m K) m k s, f + 1, am_pf F (f + 1) (ev_env N k x s), tr_put R (f + 1) z, w, W) ca f_closureCount a_closureLambdas a_closureValues fr ret fv wc a_waiting) → post (nI (tr_lc K (s.2.2.1 k))) (f_cellLimit, (nI cl), f_closureLimit, f_nodes, f_holes, f_lambdas, f_stageReached, f_grown, f_codeLength, (nI E), f_ending, ca, f_closureCount, fr, wc, a_kinds, a_operands, a_parents, a_places, a_children, a_levels, a_nests, a_scopes, a_nodeLambdas, a_lambdaNodes, a_liveNodes, a_nodeFlows, a_paramFlows, a_codeOps, a_codeNodes, a_codeTargets, a_branchSpots, a_entries, ret, fv, a_closureLambdas, a_closureValues, a_waiting, a_records, (re_cs E old (ev_call (ru_m K) m k s).2.2.2.2))) : wpX_enterCall post (f_cellLimit, (nI cl), f_closureLimit, f_nodes, f_holes, f_lambdas, f_stageReached, f_grown, f_codeLength, (nI E), f_ending, f_callCount, f_closureCount, f_frame, f_waitingCount, a_kinds, a_operands, a_parents, a_places, a_children, a_levels, a_nests, a_scopes, a_nodeLambdas, a_lambdaNodes, a_liveNodes, a_nodeFlows, a_paramFlows, a_codeOps, a_codeNodes, a_codeTargets, a_branchSpots, a_entries, a_frameReturns, a_frameValues, a_closureLambdas, a_closureValues, a_waiting, a_records, (re_cs E old s.2.2.2.2)) (nI m) (nI z) := by
  have hn : n ≤ 48 := by have := A.2.2.1; have := A.2.2.2.1; omega
  have hL : L ≤ 16 := A.2.2.2.2.2.1
  have hLn := A.2.2.2.2.1
  obtain ⟨h6, h7, h8⟩ := xr_pop (w := w + 1) H
  obtain ⟨_, g7, g8⟩ := xr_pop (h8 _ rfl)
  have G := g8 _ rfl
  have h1 : f_callCount = nI s.1 := H.1.1
  have h1b : f_closureCount = nI s.2.1 := H.1.2.1
  have h2 : f_frame = nI f := H.2.1
  subst h6 h1 h1b h2
  have hs1 := Wf.1
  have hs2 := Wf.2.1
  obtain ⟨p1, p2, p3⟩ := Wf.2.2 k hk
  have D := A.2.2.2.2.2.2.2.2.2.1 _ p1
  have hN4 := D.2.2.1 p2
  have lp := tr_lc_lt p1 p2
  have cll : a_closureLambdas k = nI (tr_lc K (s.2.2.1 k)) := (H.1.2.2 k hk).1
  have lnn := XT.2.2.2.2.2.2.2.2 _ p1 p2
  have nst := (XT.2.2.2.2.2.2.1 _ p1).2.1
  unfold wpX_enterCall
  refine xo_pop (w := w + 1) (by omega) (xo_pop (w := w) (by omega) ?_)
  rw [h7, g7]
  refine xo_isC (by omega) (br_f (by decide) (br_f (fun e => hc ((nI_eq (by omega) (by omega)).mp e)) (nm_r (nI_1 s.1) (nm_r (nI_1 f) ⟨vp_in_nI (by omega) (by omega), ?_⟩))))
  have ek : (bi_enc (.inr k)).toInt32 = nI k := (bi_k k (by omega)).1
  rw [ek, nI_clamp (n := f + 1) (by omega), nI_clamp (n := k) (by omega), cll, ru_48, nI_clamp (n := E * 48 + m) (by omega)]
  refine nm_e ⟨vp_in_nI (by omega) (by omega), nm_e ⟨vp_in_nI (by omega) (by omega), vp_in_nI (by omega) (by omega), ?_⟩⟩
  rw [re_cs_at E old _ (show m < 48 by omega), re_cs_put E old _ (show m < 48 by omega)]
  refine nm_e ⟨vp_in_nI (by omega) (by omega), ?_⟩
  rw [nI_clamp (n := tr_lc K (s.2.2.1 k)) (by omega), lnn, nI_clamp (n := s.2.2.1 k) (by omega)]
  refine ⟨vp_in_nI (by omega) (by omega), nm_r nst ⟨N (s.2.2.1 k) + 1, ?_⟩⟩
  have go : ∀ d i f' fv, i + d = N (s.2.2.1 k) → d < f' → (∀ j, j < i → fv ((f + 1) * 5 + j) = a_closureValues (k * 5 + j)) → (∀ j, j < (f + 1) * 5 → fv j = a_frameValues j) → wX_enterCall_130 post (bi_enc x) (nI k) (nI (tr_lc K (s.2.2.1 k))) (nI (N (s.2.2.1 k))) f_cellLimit (nI cl) f_closureLimit f_nodes f_holes f_lambdas f_stageReached f_grown f_codeLength (nI E) f_ending (nI (s.1 + 1)) (nI s.2.1) (nI (f + 1)) (nI w) f' (nI i) a_kinds a_operands a_parents a_places a_children a_levels a_nests a_scopes a_nodeLambdas a_lambdaNodes a_liveNodes a_nodeFlows a_paramFlows a_codeOps a_codeNodes a_codeTargets a_branchSpots a_entries (upd a_frameReturns (f + 1) (nI z)) fv a_closureLambdas a_closureValues a_waiting a_records (re_cs E old (ev_call (ru_m K) m k s).2.2.2.2) := by
    intro d
    induction d with
    | zero =>
      intro i f' fv hi hf' g1 g2
      obtain ⟨f', rfl⟩ : ∃ f'', f' = f'' + 1 := ⟨f' - 1, by omega⟩
      have e : i = N (s.2.2.1 k) := by omega
      subst e
      refine br_t (nI_le (Nat.le_refl _) (by omega)) ?_
      rw [ru_5, nI_clamp (n := (f + 1) * 5 + N (s.2.2.1 k)) (by omega)]
      refine ⟨vp_in_nI (by omega) (by omega), nm_e (hp _ _ _ _ _ (fun c' hc' => ?_))⟩
      refine xr_call (z := z) (x := x) G hk hN4 hc' hz rfl rfl re_us (fun j hj => re_un (by omega)) (fun j hj => ?_) xr_us (fun j hj => ?_)
      · rw [xr_un (by omega)]; exact g1 j hj
      · rw [xr_un (by omega)]; exact g2 j hj
    | succ d ih =>
      intro i f' fv hi hf' g1 g2
      obtain ⟨f', rfl⟩ : ∃ f'', f' = f'' + 1 := ⟨f' - 1, by omega⟩
      refine br_f (nI_ge (by omega) (by omega)) ?_
      rw [ru_5, ru_5, nI_clamp (n := k * 5 + i) (by omega), nI_clamp (n := (f + 1) * 5 + i) (by omega)]
      refine ⟨vp_in_nI (by omega) (by omega), vp_in_nI (by omega) (by omega), nm_e (nm_r (nI_1 i) ?_)⟩
      refine ih (i + 1) f' _ (by omega) (by omega) (fun j hj => ?_) (fun j hj => ?_)
      · by_cases e : j = i
        · rw [e, xr_us]
        · rw [xr_un (by omega)]; exact g1 j (by omega)
      · rw [xr_un (by omega)]; exact g2 j hj
  exact go (N (s.2.2.1 k)) 0 (N (s.2.2.1 k) + 1) a_frameValues (by omega) (by omega) (fun j hj => absurd hj (Nat.not_lt_zero j)) (fun _ _ => rfl)
theorem xo_ret {post : Int32 → SX → Prop} {z : Nat} {g : Nat → ev_V} (hf : f < 48) (H : xr_P (tr_lc K) N nn c (s, f + 1, am_pf F (f + 1) g, tr_put R (f + 1) z, w, W) f_callCount f_closureCount a_closureLambdas a_closureValues f_frame a_frameReturns a_frameValues f_waitingCount a_waiting) (hp : ∀ fr, xr_P (tr_lc K) N nn z (s, f, F, R, w, W) f_callCount f_closureCount a_closureLambdas a_closureValues fr a_frameReturns a_frameValues f_waitingCount a_waiting → post (nI z) (f_cellLimit, f_callLimit, f_closureLimit, f_nodes, f_holes, f_lambdas, f_stageReached, f_grown, f_codeLength, f_runningEngine, f_ending, f_callCount, f_closureCount, fr, f_waitingCount, a_kinds, a_operands, a_parents, a_places, a_children, a_levels, a_nests, a_scopes, a_nodeLambdas, a_lambdaNodes, a_liveNodes, a_nodeFlows, a_paramFlows, a_codeOps, a_codeNodes, a_codeTargets, a_branchSpots, a_entries, a_frameReturns, a_frameValues, a_closureLambdas, a_closureValues, a_waiting, a_records, a_calledSets)) : wpX_leaveCall post (f_cellLimit, f_callLimit, f_closureLimit, f_nodes, f_holes, f_lambdas, f_stageReached, f_grown, f_codeLength, f_runningEngine, f_ending, f_callCount, f_closureCount, f_frame, f_waitingCount, a_kinds, a_operands, a_parents, a_places, a_children, a_levels, a_nests, a_scopes, a_nodeLambdas, a_lambdaNodes, a_liveNodes, a_nodeFlows, a_paramFlows, a_codeOps, a_codeNodes, a_codeTargets, a_branchSpots, a_entries, a_frameReturns, a_frameValues, a_closureLambdas, a_closureValues, a_waiting, a_records, a_calledSets) := by
  obtain ⟨h2, h3, h4⟩ := xr_ret H
  subst h2
  refine nm_r (nI_pred f) ?_
  rw [nI_1, nI_clamp (by omega), h3]
  exact ⟨vp_in_nI (by omega) (by omega), hp _ (h4 _ rfl)⟩
/-- the end with a value -/
def ru_a (v : ev_V) : Nat := match v with
  | .inl _ => 1
  | .inr _ => 2
def ru_b (K : Nat → Nat) (s : ev_S) (v : ev_V) : Int32 := match v with
  | .inl i => i
  | .inr k => nI (tr_lc K (s.2.2.1 k))
theorem xo_end {post : SX → Prop} (hE : E < 2) (h64 : s.2.1 ≤ 64) {v : ev_V} (hw : w < 294) (ov : ev_ok s.2.1 v) (H : xr_P (tr_lc K) N nn c (s, f, F, R, w + 1, am_pw W w v) f_callCount f_closureCount a_closureLambdas a_closureValues f_frame a_frameReturns a_frameValues f_waitingCount a_waiting) (hp : ∀ wc, post (f_cellLimit, f_callLimit, f_closureLimit, f_nodes, f_holes, f_lambdas, f_stageReached, f_grown, f_codeLength, (nI E), (nI (ru_a v)), (nI s.1), (nI s.2.1), f_frame, wc, a_kinds, a_operands, a_parents, a_places, a_children, a_levels, a_nests, a_scopes, a_nodeLambdas, a_lambdaNodes, a_liveNodes, a_nodeFlows, a_paramFlows, a_codeOps, a_codeNodes, a_codeTargets, a_branchSpots, a_entries, a_frameReturns, a_frameValues, a_closureLambdas, a_closureValues, a_waiting, (ru_r E a_records (nI (ru_a v)) (ru_b K s v) (-1) (nI s.1) (nI s.2.1)), a_calledSets)) : wpX_endWithValue post (f_cellLimit, f_callLimit, f_closureLimit, f_nodes, f_holes, f_lambdas, f_stageReached, f_grown, f_codeLength, (nI E), f_ending, f_callCount, f_closureCount, f_frame, f_waitingCount, a_kinds, a_operands, a_parents, a_places, a_children, a_levels, a_nests, a_scopes, a_nodeLambdas, a_lambdaNodes, a_liveNodes, a_nodeFlows, a_paramFlows, a_codeOps, a_codeNodes, a_codeTargets, a_branchSpots, a_entries, a_frameReturns, a_frameValues, a_closureLambdas, a_closureValues, a_waiting, a_records, a_calledSets) := by
  obtain ⟨h6, h7, h8⟩ := xr_pop H
  have h1 : f_callCount = nI s.1 := H.1.1
  have h1b : f_closureCount = nI s.2.1 := H.1.2.1
  subst h6 h1 h1b
  unfold wpX_endWithValue
  refine xo_pop hw ?_
  rw [h7]
  rcases v with i | k
  · refine xo_isN i (br_t rfl ?_)
    have e1 : (bi_enc (.inl i)).toInt32 = i := bi_i i
    rw [e1]
    exact xo_endRun (p0 := nI 1) hE (hp _)
  · have hk := ov k rfl
    refine xo_isC (by omega) (br_f (by decide) ?_)
    have ek : (bi_enc (.inr k)).toInt32 = nI k := (bi_k k (by omega)).1
    have cll : a_closureLambdas k = nI (tr_lc K (s.2.2.1 k)) := (H.1.2.2 k hk).1
    rw [ek, nI_clamp (by omega), cll]
    exact ⟨vp_in_nI (by omega) (by omega), xo_endRun (p0 := nI 2) hE (hp _)⟩
end
