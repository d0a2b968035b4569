/-! ===== the class: compile ===== -/
/-- how many lambdas are kept -/
def fo_n (K e bd : Nat → Nat) (t : so_S) (n : Nat) : Nat → Nat
  | 0 => 0
  | l + 1 => if fo_c K e bd t n l = 0 then fo_n K e bd t n l else fo_n K e bd t n l + 1
section
variable {f_cellLimit f_callLimit f_closureLimit f_nodes f_holes f_lambdas f_stageReached f_grown f_codeLength f_runningEngine f_ending f_callCount f_closureCount f_frame f_waitingCount : Int32} {a_kinds a_operands a_parents a_places a_children a_levels a_nests a_scopes a_nodeLambdas a_lambdaNodes a_liveNodes a_nodeFlows a_paramFlows a_codeOps a_codeNodes a_codeTargets a_branchSpots a_entries a_frameReturns a_closureLambdas a_records a_calledSets : Nat → Int32} {a_closureValues a_frameValues a_waiting : Nat → Int64}
variable {cs n L : Nat} {K P N Lv S O B : Nat → Nat} {t : so_S}
theorem xx_kept {post : Int32 → Prop} (A : re_A cs n 0 L K P N Lv S O B) (XT : re_X n K P N Lv S O B a_kinds a_operands a_parents a_places a_children a_levels a_nests a_scopes a_nodeLambdas a_lambdaNodes) (R : so_R n L t) (X : so_X n L t a_liveNodes a_nodeFlows a_paramFlows) (h : post (nI (fo_n K (tr_e P n) (re_bd K n) t n L))) : wpX_countKeptLambdas post (f_cellLimit, f_callLimit, f_closureLimit, (nI n), f_holes, (nI L), f_stageReached, f_grown, f_codeLength, f_runningEngine, f_ending, f_callCount, f_closureCount, f_frame, f_waitingCount, a_kinds, a_operands, a_parents, a_places, a_children, a_levels, a_nests, a_scopes, a_nodeLambdas, a_lambdaNodes, a_liveNodes, a_nodeFlows, a_paramFlows, a_codeOps, a_codeNodes, a_codeTargets, a_branchSpots, a_entries, a_frameReturns, a_frameValues, a_closureLambdas, a_closureValues, a_waiting, a_records, a_calledSets) := by
  have hL : L ≤ 16 := A.2.2.2.2.2.1
  have go : ∀ d i f, i + d = L → d < f → wX_countKeptLambdas_4 post f_cellLimit f_callLimit f_closureLimit (nI n) f_holes (nI L) f_stageReached f_grown f_codeLength f_runningEngine f_ending f_callCount f_closureCount f_frame f_waitingCount a_kinds a_operands a_parents a_places a_children a_levels a_nests a_scopes a_nodeLambdas a_lambdaNodes a_liveNodes a_nodeFlows a_paramFlows a_codeOps a_codeNodes a_codeTargets a_branchSpots a_entries a_frameReturns a_frameValues a_closureLambdas a_closureValues a_waiting a_records a_calledSets f (nI (fo_n K (tr_e P n) (re_bd K n) t n i)) (nI i) := by
    intro d
    induction d with
    | zero =>
      intro i f hi hf
      obtain ⟨f, rfl⟩ : ∃ f', f = f' + 1 := ⟨f - 1, by omega⟩
      have e : i = L := by omega
      subst e
      exact br_t (nI_le (Nat.le_refl _) (by omega)) h
    | succ d ih =>
      intro i f hi hf
      obtain ⟨f, rfl⟩ : ∃ f', f = f' + 1 := ⟨f - 1, by omega⟩
      have nx := ih (i + 1) f (by omega) (by omega)
      have e : fo_n K (tr_e P n) (re_bd K n) t n (i + 1) = (if fo_c K (tr_e P n) (re_bd K n) t n i = 0 then fo_n K (tr_e P n) (re_bd K n) t n i else fo_n K (tr_e P n) (re_bd K n) t n i + 1) := rfl
      rw [e] at nx
      have c2 := fo_c2 K (tr_e P n) (re_bd K n) t n i
      refine br_f (nI_ge (by omega) (by omega)) (xx_formOf A XT (by omega) R X ?_)
      by_cases z : fo_c K (tr_e P n) (re_bd K n) t n i = 0
      · rw [if_pos z] at nx
        rw [z]
        exact br_t rfl (nm_r (nI_1 i) nx)
      · rw [if_neg z] at nx
        exact br_f (nI_ne0 (by omega) (by omega)) (nm_r (nI_1 _) (nm_r (nI_1 i) nx))
  exact ⟨L + 1, go L 0 (L + 1) (by omega) (by omega)⟩
/-- the links of known calls -/
theorem xx_link {post : SX → Prop} {z : Nat} {oc nd tg en : Nat → Nat} (A : re_A cs n 0 L K P N Lv S O B) (XT : re_X n K P N Lv S O B a_kinds a_operands a_parents a_places a_children a_levels a_nests a_scopes a_nodeLambdas a_lambdaNodes) (R : so_R n L t) (X : so_X n L t a_liveNodes a_nodeFlows a_paramFlows) (hz : z ≤ 113) (hc : ∀ c, c < z → nd c < n ∧ (oc c = 6 → K (nd c) = 3)) (ho : ∀ c, c < z → oc c ≤ 9) (hen : ∀ l, l < L → a_entries l = nI (en l))
    (h : ∀ tg', (∀ j, j < z → oc j ≠ 6 → tg' j = tg j) → (∀ x, x < z → oc x = 6 → ∀ l, l < L → t.2.1 (nd x + 1) = 2 ^ l → tg' x = en l) → post (f_cellLimit, f_callLimit, f_closureLimit, f_nodes, f_holes, (nI L), f_stageReached, f_grown, (nI z), f_runningEngine, f_ending, f_callCount, f_closureCount, f_frame, f_waitingCount, a_kinds, a_operands, a_parents, a_places, a_children, a_levels, a_nests, a_scopes, a_nodeLambdas, a_lambdaNodes, a_liveNodes, a_nodeFlows, a_paramFlows, (rn_F oc), (rn_F nd), (rn_F tg'), a_branchSpots, a_entries, a_frameReturns, a_frameValues, a_closureLambdas, a_closureValues, a_waiting, a_records, a_calledSets)) :
    wpX_linkKnownCalls post (f_cellLimit, f_callLimit, f_closureLimit, f_nodes, f_holes, (nI L), f_stageReached, f_grown, (nI z), f_runningEngine, f_ending, f_callCount, f_closureCount, f_frame, f_waitingCount, a_kinds, a_operands, a_parents, a_places, a_children, a_levels, a_nests, a_scopes, a_nodeLambdas, a_lambdaNodes, a_liveNodes, a_nodeFlows, a_paramFlows, (rn_F oc), (rn_F nd), (rn_F tg), a_branchSpots, a_entries, a_frameReturns, a_frameValues, a_closureLambdas, a_closureValues, a_waiting, a_records, a_calledSets) := by
  have hn : n ≤ 48 := by have := A.2.2.1; have := A.2.2.2.1; omega
  have hL : L ≤ 16 := A.2.2.2.2.2.1
  have ms := fun i => so_ms_lt hL (R.2.2.2.1 i)
  -- one call
  have inner : ∀ {J : Int32 → (Nat → Int32) → (Nat → Int32) → (Nat → Int32) → (Nat → Int32) → (Nat → Int32) → (Nat → Int32) → (Nat → Int32) → (Nat → Int32) → (Nat → Int32) → (Nat → Int32) → (Nat → Int32) → (Nat → Int32) → (Nat → Int32) → (Nat → Int32) → (Nat → Int32) → (Nat → Int32) → (Nat → Int32) → (Nat → Int32) → (Nat → Int32) → (Nat → Int64) → (Nat → Int32) → (Nat → Int64) → (Nat → Int64) → (Nat → Int32) → (Nat → Int32) → Prop} (x m : Nat), x < z → m < 131072 → ∀ tg0 : Nat → Nat, (∀ tg1, (∀ j, j ≠ x → tg1 j = tg0 j) → (∀ l, l < L → m = 2 ^ l → tg1 x = en l) → J (nI (x + 1)) a_kinds a_operands a_parents a_places a_children a_levels a_nests a_scopes a_nodeLambdas a_lambdaNodes a_liveNodes a_nodeFlows a_paramFlows (rn_F oc) (rn_F nd) (rn_F tg1) a_branchSpots a_entries a_frameReturns a_frameValues a_closureLambdas a_closureValues a_waiting a_records a_calledSets) →
      ∀ d l f tg1, l + d = L → d < f → (∀ j, j ≠ x → tg1 j = tg0 j) → (∀ l', l' < l → m = 2 ^ l' → tg1 x = en l') → wX_linkKnownCalls_40 post J (nI x) (nI m) f_cellLimit f_callLimit f_closureLimit f_nodes f_holes (nI L) f_stageReached f_grown (nI z) f_runningEngine f_ending f_callCount f_closureCount f_frame f_waitingCount f (nI l) a_kinds a_operands a_parents a_places a_children a_levels a_nests a_scopes a_nodeLambdas a_lambdaNodes a_liveNodes a_nodeFlows a_paramFlows (rn_F oc) (rn_F nd) (rn_F tg1) a_branchSpots a_entries a_frameReturns a_frameValues a_closureLambdas a_closureValues a_waiting a_records a_calledSets := by
    intro J x m hx hm tg0 hJ d
    induction d with
    | zero =>
      intro l f tg1 hl hf h1 h2
      obtain ⟨f, rfl⟩ : ∃ f', f = f' + 1 := ⟨f - 1, by omega⟩
      have e : l = L := by omega
      subst e
      exact br_t (nI_le (Nat.le_refl _) (by omega)) (nm_r (nI_1 x) (hJ tg1 h1 h2))
    | succ d ih =>
      intro l f tg1 hl hf h1 h2
      obtain ⟨f, rfl⟩ : ∃ f', f = f' + 1 := ⟨f - 1, by omega⟩
      have hpw : 2 ^ l < 2 ^ 16 := Nat.pow_lt_pow_right (by decide) (by omega)
      refine br_f (nI_ge (by omega) (by omega)) ?_
      rw [bi_shl l (by omega)]
      by_cases e : m = 2 ^ l
      · rw [e]
        refine br_t rfl ⟨vp_in_nI (by omega) (by omega), vp_in_nI (by omega) (by omega), ?_⟩
        rw [nI_clamp (n := x) (by omega), nI_clamp (n := l) (by omega), hen l (by omega), rn_put]
        rw [e] at ih
        refine nm_e (nm_r (nI_1 l) (ih (l + 1) f _ (by omega) (by omega) (fun j hj => ?_) (fun l' hl' e' => ?_)))
        · rw [tr_put_n _ _ hj]; exact h1 j hj
        · rw [tr_put_s]
          have : l' = l := by
            rcases Nat.lt_trichotomy l' l with q | q | q
            · have := Nat.pow_lt_pow_right (a := 2) (by decide) q; omega
            · exact q
            · omega
          rw [this]
      · refine br_f (fun w => e ((nI_eq (by omega) (by omega)).mp w)) (nm_r (nI_1 l) (ih (l + 1) f tg1 (by omega) (by omega) h1 (fun l' hl' e' => ?_)))
        by_cases q : l' = l
        · subst q; exact absurd e' e
        · exact h2 l' (by omega) e'
  have go : ∀ d x f tg1, x + d = z → d < f → (∀ j, j < z → oc j ≠ 6 → tg1 j = tg j) → (∀ y, y < x → oc y = 6 → ∀ l, l < L → t.2.1 (nd y + 1) = 2 ^ l → tg1 y = en l) → wX_linkKnownCalls_2 post f_cellLimit f_callLimit f_closureLimit f_nodes f_holes (nI L) f_stageReached f_grown (nI z) f_runningEngine f_ending f_callCount f_closureCount f_frame f_waitingCount f (nI x) a_kinds a_operands a_parents a_places a_children a_levels a_nests a_scopes a_nodeLambdas a_lambdaNodes a_liveNodes a_nodeFlows a_paramFlows (rn_F oc) (rn_F nd) (rn_F tg1) a_branchSpots a_entries a_frameReturns a_frameValues a_closureLambdas a_closureValues a_waiting a_records a_calledSets := by
    intro d
    induction d with
    | zero =>
      intro x f tg1 hx hf h1 h2
      obtain ⟨f, rfl⟩ : ∃ f', f = f' + 1 := ⟨f - 1, by omega⟩
      have e : x = z := by omega
      subst e
      exact br_t (nI_le (Nat.le_refl _) (by omega)) (h tg1 h1 h2)
    | succ d ih =>
      intro x f tg1 hx hf h1 h2
      obtain ⟨f, rfl⟩ : ∃ f', f = f' + 1 := ⟨f - 1, by omega⟩
      have vx : vp_in (nI x) 113 := vp_in_nI (by omega) (by omega)
      obtain ⟨c1, c2⟩ := hc x (by omega)
      have o9 := ho x (by omega)
      refine br_f (nI_ge (by omega) (by omega)) ⟨vx, ?_⟩
      rw [rn_at oc (by omega), rn_at nd (by omega)]
      by_cases e : oc x = 6
      · obtain ⟨r1, r2, _⟩ := re_kid0 A XT c1 (by have := c2 e; omega)
        rw [e]
        refine br_t rfl ⟨vx, xx_childAt (k := 0) (by omega) (by omega) ?_⟩
        rw [r2]
        refine ⟨vp_in_nI (by omega) (by omega), ?_⟩
        rw [nI_clamp (n := nd x + 1) (by omega)]
        refine nm_r (X.1 _ r1).2 ⟨L + 1, inner x _ (by omega) (ms _) tg1 (fun tg2 g1 g2 => ?_) L 0 (L + 1) tg1 (by omega) (by omega) (fun _ _ => rfl) (fun l' hl' => absurd hl' (Nat.not_lt_zero l'))⟩
        refine ih (x + 1) f tg2 (by omega) (by omega) (fun j hj oj => ?_) (fun y hy oy l hl el => ?_)
        · rw [g1 j (fun q => by subst q; exact oj e)]
          exact h1 j hj oj
        · by_cases q : y = x
          · subst q; exact g2 l hl el
          · rw [g1 y q]; exact h2 y (by omega) oy l hl el
      · refine br_f (fun w => e ((nI_eq (b := 6) (by omega) (by decide)).mp w)) (nm_r (nI_1 x) (ih (x + 1) f tg1 (by omega) (by omega) h1 (fun y hy oy l hl el => ?_)))
        by_cases q : y = x
        · subst q; exact absurd oy e
        · exact h2 y (by omega) oy l hl el
  exact ⟨z + 1, go z 0 (z + 1) tg (by omega) (by omega) (fun _ _ _ => rfl) (fun y hy => absurd hy (Nat.not_lt_zero y))⟩
end
