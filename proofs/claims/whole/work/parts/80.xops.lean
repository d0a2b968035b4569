/-! ===== the class: what both engines do with values ===== -/
def ru_m (K : Nat → Nat) (p : Nat) : Int32 := (1 : Int32) <<< (nI (tr_lc K p) &&& 31)
def ru_r (E : Nat) (r : Nat → Int32) (a b c d e : Int32) : Nat → Int32 := upd (upd (upd (upd (upd r (E * 5) a) (E * 5 + 1) b) (E * 5 + 2) c) (E * 5 + 3) d) (E * 5 + 4) e
theorem ru_5 (a b : Nat) : nI a * 5 + nI b = nI (a * 5 + b) := by
  show nI a * nI 5 + nI b = _
  rw [pk_mul, nI_add]
theorem ru_48 (a b : Nat) : nI a * 48 + nI b = nI (a * 48 + b) := by
  show nI a * nI 48 + nI b = _
  rw [pk_mul, nI_add]
section
variable {f_cellLimit f_callLimit f_closureLimit f_nodes f_holes f_lambdas f_stageReached f_grown f_codeLength f_runningEngine f_ending f_callCount f_closureCount f_frame f_waitingCount : Int32} {a_kinds a_operands a_parents a_places a_children a_levels a_nests a_scopes a_nodeLambdas a_lambdaNodes a_liveNodes a_nodeFlows a_paramFlows a_codeOps a_codeNodes a_codeTargets a_branchSpots a_entries a_frameReturns a_closureLambdas a_records a_calledSets : Nat → Int32} {a_closureValues a_frameValues a_waiting : Nat → Int64}
variable {cs n L cl cm E f w c : Nat} {K P N Lv S O B nn : Nat → Nat} {old : Nat → Int32} {s : ev_S} {F : Nat → Nat → ev_V} {R : Nat → Nat} {W : Nat → ev_V}
theorem xo_endRun {post : SX → Prop} {p0 p1 p2 : Int32} (hE : E < 2) (hp : post (f_cellLimit, f_callLimit, f_closureLimit, f_nodes, f_holes, f_lambdas, f_stageReached, f_grown, f_codeLength, (nI E), p0, f_callCount, f_closureCount, f_frame, f_waitingCount, a_kinds, a_operands, a_parents, a_places, a_children, a_levels, a_nests, a_scopes, a_nodeLambdas, a_lambdaNodes, a_liveNodes, a_nodeFlows, a_paramFlows, a_codeOps, a_codeNodes, a_codeTargets, a_branchSpots, a_entries, a_frameReturns, a_frameValues, a_closureLambdas, a_closureValues, a_waiting, (ru_r E a_records p0 p1 p2 f_callCount f_closureCount), a_calledSets)) : wpX_endRun post (f_cellLimit, f_callLimit, f_closureLimit, f_nodes, f_holes, f_lambdas, f_stageReached, f_grown, f_codeLength, (nI E), f_ending, f_callCount, f_closureCount, f_frame, f_waitingCount, a_kinds, a_operands, a_parents, a_places, a_children, a_levels, a_nests, a_scopes, a_nodeLambdas, a_lambdaNodes, a_liveNodes, a_nodeFlows, a_paramFlows, a_codeOps, a_codeNodes, a_codeTargets, a_branchSpots, a_entries, a_frameReturns, a_frameValues, a_closureLambdas, a_closureValues, a_waiting, a_records, a_calledSets) p0 p1 p2 := by
  have e5 : nI E * 5 = nI (E * 5) := pk_mul E 5
  have e : ∀ k, k < 5 → vp_in (nI (E * 5) + nI k) 10 ∧ (nI (E * 5) + nI k).toNatClampNeg = E * 5 + k := fun k hk => by
    rw [nI_add, nI_clamp (by omega)]
    exact ⟨vp_in_nI (by omega) (by omega), rfl⟩
  refine nm_r e5 ⟨vp_in_nI (by omega) (by omega), nm_e ⟨(e 1 (by omega)).1, nm_e ⟨(e 2 (by omega)).1, nm_e ⟨(e 3 (by omega)).1, nm_e ⟨(e 4 (by omega)).1, nm_e ?_⟩⟩⟩⟩⟩
  have j1 : (nI (E * 5) + 1).toNatClampNeg = E * 5 + 1 := (e 1 (by omega)).2
  have j2 : (nI (E * 5) + 2).toNatClampNeg = E * 5 + 2 := (e 2 (by omega)).2
  have j3 : (nI (E * 5) + 3).toNatClampNeg = E * 5 + 3 := (e 3 (by omega)).2
  have j4 : (nI (E * 5) + 4).toNatClampNeg = E * 5 + 4 := (e 4 (by omega)).2
  rw [nI_clamp (by omega), j1, j2, j3, j4]
  exact hp
theorem xo_push {post : SX → Prop} {v : Int64} (hw : w < 294) (hp : post (f_cellLimit, f_callLimit, f_closureLimit, f_nodes, f_holes, f_lambdas, f_stageReached, f_grown, f_codeLength, f_runningEngine, f_ending, f_callCount, f_closureCount, f_frame, (nI (w + 1)), a_kinds, a_operands, a_parents, a_places, a_children, a_levels, a_nests, a_scopes, a_nodeLambdas, a_lambdaNodes, a_liveNodes, a_nodeFlows, a_paramFlows, a_codeOps, a_codeNodes, a_codeTargets, a_branchSpots, a_entries, a_frameReturns, a_frameValues, a_closureLambdas, a_closureValues, (vp_updL a_waiting w v), a_records, a_calledSets)) : wpX_push post (f_cellLimit, f_callLimit, f_closureLimit, f_nodes, f_holes, f_lambdas, f_stageReached, f_grown, f_codeLength, f_runningEngine, f_ending, f_callCount, f_closureCount, f_frame, (nI w), a_kinds, a_operands, a_parents, a_places, a_children, a_levels, a_nests, a_scopes, a_nodeLambdas, a_lambdaNodes, a_liveNodes, a_nodeFlows, a_paramFlows, a_codeOps, a_codeNodes, a_codeTargets, a_branchSpots, a_entries, a_frameReturns, a_frameValues, a_closureLambdas, a_closureValues, a_waiting, a_records, a_calledSets) v := by
  refine ⟨vp_in_nI hw (by omega), ?_⟩
  rw [nI_clamp (by omega)]
  exact nm_e (nm_r (nI_1 w) hp)
theorem xo_pop {post : Int64 → SX → Prop} (hw : w < 294) (hp : post (a_waiting w) (f_cellLimit, f_callLimit, f_closureLimit, f_nodes, f_holes, f_lambdas, f_stageReached, f_grown, f_codeLength, f_runningEngine, f_ending, f_callCount, f_closureCount, f_frame, (nI w), a_kinds, a_operands, a_parents, a_places, a_children, a_levels, a_nests, a_scopes, a_nodeLambdas, a_lambdaNodes, a_liveNodes, a_nodeFlows, a_paramFlows, a_codeOps, a_codeNodes, a_codeTargets, a_branchSpots, a_entries, a_frameReturns, a_frameValues, a_closureLambdas, a_closureValues, a_waiting, a_records, a_calledSets)) : wpX_pop post (f_cellLimit, f_callLimit, f_closureLimit, f_nodes, f_holes, f_lambdas, f_stageReached, f_grown, f_codeLength, f_runningEngine, f_ending, f_callCount, f_closureCount, f_frame, (nI (w + 1)), a_kinds, a_operands, a_parents, a_places, a_children, a_levels, a_nests, a_scopes, a_nodeLambdas, a_lambdaNodes, a_liveNodes, a_nodeFlows, a_paramFlows, a_codeOps, a_codeNodes, a_codeTargets, a_branchSpots, a_entries, a_frameReturns, a_frameValues, a_closureLambdas, a_closureValues, a_waiting, a_records, a_calledSets) := by
  refine nm_r (nI_pred w) ⟨vp_in_nI hw (by omega), ?_⟩
  rw [nI_clamp (by omega)]
  exact hp
theorem xo_isN {post : Int32 → Prop} (i : Int32) (hp : post 0) : wpX_isClosure post (bi_enc (.inl i)) := br_t (bi_n i) hp
theorem xo_isC {post : Int32 → Prop} {k : Nat} (hk : k < 64) (hp : post 1) : wpX_isClosure post (bi_enc (.inr k)) := br_f (bi_k k hk).2.1 hp
theorem xo_num {post : SX → Prop} (i : Int32) (hw : w < 294) (H : xr_P (tr_lc K) N nn c (s, f, F, R, w, W) f_callCount f_closureCount a_closureLambdas a_closureValues f_frame a_frameReturns a_frameValues f_waitingCount a_waiting) (hp : ∀ wc wt, xr_P (tr_lc K) N nn c (s, f, F, R, w + 1, am_pw W w (.inl i)) f_callCount f_closureCount a_closureLambdas a_closureValues f_frame a_frameReturns a_frameValues wc wt → post (f_cellLimit, f_callLimit, f_closureLimit, f_nodes, f_holes, f_lambdas, f_stageReached, f_grown, f_codeLength, f_runningEngine, f_ending, f_callCount, f_closureCount, f_frame, wc, a_kinds, a_operands, a_parents, a_places, a_children, a_levels, a_nests, a_scopes, a_nodeLambdas, a_lambdaNodes, a_liveNodes, a_nodeFlows, a_paramFlows, a_codeOps, a_codeNodes, a_codeTargets, a_branchSpots, a_entries, a_frameReturns, a_frameValues, a_closureLambdas, a_closureValues, wt, a_records, a_calledSets)) : wpX_pushNumber post (f_cellLimit, f_callLimit, f_closureLimit, f_nodes, f_holes, f_lambdas, f_stageReached, f_grown, f_codeLength, f_runningEngine, f_ending, f_callCount, f_closureCount, f_frame, f_waitingCount, a_kinds, a_operands, a_parents, a_places, a_children, a_levels, a_nests, a_scopes, a_nodeLambdas, a_lambdaNodes, a_liveNodes, a_nodeFlows, a_paramFlows, a_codeOps, a_codeNodes, a_codeTargets, a_branchSpots, a_entries, a_frameReturns, a_frameValues, a_closureLambdas, a_closureValues, a_waiting, a_records, a_calledSets) i := by
  have h6 : f_waitingCount = nI w := H.2.2.2.2.2.1
  subst h6
  unfold wpX_pushNumber
  exact xo_push hw (hp _ _ (xr_push H (.inl i) rfl))
theorem xo_var {post : SX → Prop} {m : Nat} (A : re_A cs n 0 L K P N Lv S O B) (XT : re_X n K P N Lv S O B a_kinds a_operands a_parents a_places a_children a_levels a_nests a_scopes a_nodeLambdas a_lambdaNodes) (hm : m < n) (k : K m = 0) (hf : f ≤ 48) (hw : w < 294) (hnn : nn c = N m) (H : xr_P (tr_lc K) N nn c (s, f, F, R, w, W) f_callCount f_closureCount a_closureLambdas a_closureValues f_frame a_frameReturns a_frameValues f_waitingCount a_waiting) (hp : ∀ wc wt, xr_P (tr_lc K) N nn c (s, f, F, R, w + 1, am_pw W w (F f (re_ix N O m))) f_callCount f_closureCount a_closureLambdas a_closureValues f_frame a_frameReturns a_frameValues wc wt → post (f_cellLimit, f_callLimit, f_closureLimit, f_nodes, f_holes, f_lambdas, f_stageReached, f_grown, f_codeLength, f_runningEngine, f_ending, f_callCount, f_closureCount, f_frame, wc, a_kinds, a_operands, a_parents, a_places, a_children, a_levels, a_nests, a_scopes, a_nodeLambdas, a_lambdaNodes, a_liveNodes, a_nodeFlows, a_paramFlows, a_codeOps, a_codeNodes, a_codeTargets, a_branchSpots, a_entries, a_frameReturns, a_frameValues, a_closureLambdas, a_closureValues, wt, a_records, a_calledSets)) : wpX_pushBound post (f_cellLimit, f_callLimit, f_closureLimit, f_nodes, f_holes, f_lambdas, f_stageReached, f_grown, f_codeLength, f_runningEngine, f_ending, f_callCount, f_closureCount, f_frame, f_waitingCount, a_kinds, a_operands, a_parents, a_places, a_children, a_levels, a_nests, a_scopes, a_nodeLambdas, a_lambdaNodes, a_liveNodes, a_nodeFlows, a_paramFlows, a_codeOps, a_codeNodes, a_codeTargets, a_branchSpots, a_entries, a_frameReturns, a_frameValues, a_closureLambdas, a_closureValues, a_waiting, a_records, a_calledSets) (nI m) := by
  have hn : n ≤ 48 := by have := A.2.2.1; have := A.2.2.2.1; omega
  have D := A.2.2.2.2.2.2.2.2.2.1 m hm
  have ho := (A.2.2.2.2.2.2.2.2.2.2 m hm k).1
  have h2 : f_frame = nI f := H.2.1
  have h6 : f_waitingCount = nI w := H.2.2.2.2.2.1
  subst h2 h6
  have v : vp_in (nI m) 48 := vp_in_nI (by omega) (by omega)
  refine ⟨v, v, ?_⟩
  rw [nI_clamp (by omega), (XT.2.2.2.2.2.2.1 m hm).2.1, XT.2.1 m hm k]
  have e1 : nI (N m) - 1 = nI (N m - 1) := pk_sub (b := 1) (by omega)
  have e2 : nI (N m) - 1 - nI (O m) = nI (re_ix N O m) := by
    rw [e1]
    exact pk_sub (by omega)
  have hi : re_ix N O m < 5 ∧ re_ix N O m < N m := by
    show N m - 1 - O m < 5 ∧ N m - 1 - O m < N m
    omega
  refine nm_r e2 ?_
  rw [ru_5, nI_clamp (by omega)]
  refine ⟨vp_in_nI (by omega) (by omega), ?_⟩
  have hv : a_frameValues (f * 5 + re_ix N O m) = bi_enc (F f (re_ix N O m)) := H.2.2.2.2.1 _ (by rw [hnn]; exact hi.2) hi.1
  rw [hv]
  exact xo_push hw (hp _ _ (xr_push H _ rfl))
theorem xo_lamF {post : SX → Prop} {m : Nat} (hE : E < 2) (h64 : cm ≤ 64) (hc : s.2.1 = cm) (H : xr_P (tr_lc K) N nn c (s, f, F, R, w, W) f_callCount f_closureCount a_closureLambdas a_closureValues f_frame a_frameReturns a_frameValues f_waitingCount a_waiting) (hp : post (f_cellLimit, f_callLimit, (nI cm), f_nodes, f_holes, f_lambdas, f_stageReached, f_grown, f_codeLength, (nI E), (nI 5), (nI s.1), (nI s.2.1), f_frame, f_waitingCount, a_kinds, a_operands, a_parents, a_places, a_children, a_levels, a_nests, a_scopes, a_nodeLambdas, a_lambdaNodes, a_liveNodes, a_nodeFlows, a_paramFlows, a_codeOps, a_codeNodes, a_codeTargets, a_branchSpots, a_entries, a_frameReturns, a_frameValues, a_closureLambdas, a_closureValues, a_waiting, (ru_r E a_records (nI 5) (nI 0) (nI m) (nI s.1) (nI s.2.1)), a_calledSets)) : wpX_pushClosure post (f_cellLimit, f_callLimit, (nI cm), f_nodes, f_holes, f_lambdas, f_stageReached, f_grown, f_codeLength, (nI E), f_ending, f_callCount, f_closureCount, f_frame, f_waitingCount, a_kinds, a_operands, a_parents, a_places, a_children, a_levels, a_nests, a_scopes, a_nodeLambdas, a_lambdaNodes, a_liveNodes, a_nodeFlows, a_paramFlows, a_codeOps, a_codeNodes, a_codeTargets, a_branchSpots, a_entries, a_frameReturns, a_frameValues, a_closureLambdas, a_closureValues, a_waiting, a_records, a_calledSets) (nI m) := by
  have h1 : f_callCount = nI s.1 := H.1.1
  have h1b : f_closureCount = nI s.2.1 := H.1.2.1
  subst h1 h1b
  exact br_t (by rw [hc]) (xo_endRun (p0 := nI 5) (p1 := nI 0) hE hp)
theorem xo_lam {post : SX → Prop} {m : Nat} (A : re_A cs n 0 L K P N Lv S O B) (XT : re_X n K P N Lv S O B a_kinds a_operands a_parents a_places a_children a_levels a_nests a_scopes a_nodeLambdas a_lambdaNodes) (hm : m < n) (k : K m = 2) (hf : f ≤ 48) (hw : w < 294) (h64 : cm ≤ 64) (Wf : ev_W K N n cl cm s) (hc : s.2.1 ≠ cm) (hnn : nn c = N m) (H : xr_P (tr_lc K) N nn c (s, f, F, R, w, W) f_callCount f_closureCount a_closureLambdas a_closureValues f_frame a_frameReturns a_frameValues f_waitingCount a_waiting) (hp : ∀ co cll clv wc wt, xr_P (tr_lc K) N nn c (ev_clo m (F f) s, f, F, R, w + 1, am_pw W w (.inr s.2.1)) f_callCount co cll clv f_frame a_frameReturns a_frameValues wc wt → post (f_cellLimit, f_callLimit, (nI cm), f_nodes, f_holes, f_lambdas, f_stageReached, f_grown, f_codeLength, f_runningEngine, f_ending, f_callCount, co, f_frame, wc, a_kinds, a_operands, a_parents, a_places, a_children, a_levels, a_nests, a_scopes, a_nodeLambdas, a_lambdaNodes, a_liveNodes, a_nodeFlows, a_paramFlows, a_codeOps, a_codeNodes, a_codeTargets, a_branchSpots, a_entries, a_frameReturns, a_frameValues, cll, clv, wt, a_records, a_calledSets)) : wpX_pushClosure post (f_cellLimit, f_callLimit, (nI cm), f_nodes, f_holes, f_lambdas, f_stageReached, f_grown, f_codeLength, f_runningEngine, f_ending, f_callCount, f_closureCount, f_frame, f_waitingCount, a_kinds, a_operands, a_parents, a_places, a_children, a_levels, a_nests, a_scopes, a_nodeLambdas, a_lambdaNodes, a_liveNodes, a_nodeFlows, a_paramFlows, a_codeOps, a_codeNodes, a_codeTargets, a_branchSpots, a_entries, a_frameReturns, a_frameValues, a_closureLambdas, a_closureValues, a_waiting, a_records, a_calledSets) (nI m) := by
  have hn : n ≤ 48 := by have := A.2.2.1; have := A.2.2.2.1; omega
  have Da := A.2.2.2.2.2.2.2.2.2.1
  have D := Da m hm
  have h1b : f_closureCount = nI s.2.1 := H.1.2.1
  have h2 : f_frame = nI f := H.2.1
  have h6 : f_waitingCount = nI w := H.2.2.2.2.2.1
  subst h1b h2 h6
  have hq := Wf.2.1
  have v : vp_in (nI m) 48 := vp_in_nI (by omega) (by omega)
  have hcm := nI_clamp (n := m) (by omega)
  have hN : ∀ k, k < s.2.1 → N (s.2.2.1 k) ≤ 5 := fun k hk => by
    obtain ⟨a, b, _⟩ := Wf.2.2 k hk
    exact (Da _ a).2.1
  refine br_f (fun e => hc ((nI_eq (by omega) (by omega)).mp e)) ⟨v, vp_in_nI (by omega) (by omega), ?_⟩
  rw [hcm, nI_clamp (n := s.2.1) (by omega), (XT.2.2.2.2.2.2.2.1 m hm).2.1 k]
  refine nm_e ⟨N m + 1, ?_⟩
  have go : ∀ d i f' clv, i + d = N m → d < f' → (∀ j, j < i → clv (s.2.1 * 5 + j) = a_frameValues (f * 5 + j)) → (∀ j, j < s.2.1 * 5 → clv j = a_closureValues j) → wX_pushClosure_36 post (nI m) f_cellLimit f_callLimit (nI cm) f_nodes f_holes f_lambdas f_stageReached f_grown f_codeLength f_runningEngine f_ending f_callCount (nI s.2.1) (nI f) (nI w) f' (nI i) a_kinds a_operands a_parents a_places a_children a_levels a_nests a_scopes a_nodeLambdas a_lambdaNodes a_liveNodes a_nodeFlows a_paramFlows a_codeOps a_codeNodes a_codeTargets a_branchSpots a_entries a_frameReturns a_frameValues (upd a_closureLambdas s.2.1 (nI (tr_lc K m))) clv a_waiting a_records a_calledSets := by
    intro d
    induction d with
    | zero =>
      intro i f' clv hi hf' g1 g2
      obtain ⟨f', rfl⟩ : ∃ f'', f' = f'' + 1 := ⟨f' - 1, by omega⟩
      have e : i = N m := by omega
      subst e
      refine ⟨v, ?_⟩
      rw [hcm, (XT.2.2.2.2.2.2.1 m hm).2.1]
      refine br_t (nI_le (Nat.le_refl _) (by omega)) (xo_push hw (nm_r (nI_1 _) ?_))
      have H2 := xr_clo (m := m) (co' := nI (s.2.1 + 1)) (cll' := upd a_closureLambdas s.2.1 (nI (tr_lc K m))) (clv' := clv) H hnn D.2.1 hN rfl re_us (fun j hj => re_un (by omega)) g1 g2
      exact hp _ _ _ _ _ (xr_push H2 (.inr s.2.1) rfl)
    | succ d ih =>
      intro i f' clv hi hf' g1 g2
      obtain ⟨f', rfl⟩ : ∃ f'', f' = f'' + 1 := ⟨f' - 1, by omega⟩
      refine ⟨v, ?_⟩
      rw [hcm, (XT.2.2.2.2.2.2.1 m hm).2.1]
      refine br_f (nI_ge (by omega) (by omega)) ?_
      rw [ru_5, ru_5, nI_clamp (n := f * 5 + i) (by omega), nI_clamp (n := s.2.1 * 5 + i) (by omega)]
      refine ⟨vp_in_nI (by omega) (by omega), vp_in_nI (by omega) (by omega), nm_e (nm_r (nI_1 i) ?_)⟩
      refine ih (i + 1) f' _ (by omega) (by omega) (fun j hj => ?_) (fun j hj => ?_)
      · by_cases e : j = i
        · rw [e, xr_us]
        · rw [xr_un (by omega)]; exact g1 j (by omega)
      · rw [xr_un (by omega)]; exact g2 j hj
  exact go (N m) 0 (N m + 1) a_closureValues (by omega) (by omega) (fun j hj => absurd hj (Nat.not_lt_zero j)) (fun _ _ => rfl)
end
