/-! ===== the class: put, the whole of it ===== -/
section
variable {f_cellLimit f_callLimit f_closureLimit f_nodes f_holes f_lambdas f_stageReached f_grown f_codeLength f_runningEngine f_ending f_callCount f_closureCount f_frame f_waitingCount : Int32} {a_kinds a_operands a_parents a_places a_children a_levels a_nests a_scopes a_nodeLambdas a_lambdaNodes a_liveNodes a_nodeFlows a_paramFlows a_codeOps a_codeNodes a_codeTargets a_branchSpots a_entries a_frameReturns a_closureLambdas a_records a_calledSets : Nat → Int32} {a_closureValues a_frameValues a_waiting : Nat → Int64}
variable {cs n h L p : Nat} {K P N Lv S O B : Nat → Nat}
theorem xx_put {post : Int32 → SX → Prop} {k : Nat} {v : Int32} (A : re_A cs n h L K P N Lv S O B) (hk6 : k ≤ 6) (hh : 0 < h) (hp : re_p K P n p) (X : re_X n K P N Lv S O B a_kinds a_operands a_parents a_places a_children a_levels a_nests a_scopes a_nodeLambdas a_lambdaNodes)
    (h1 : ∀ r, r = pu_c cs n h L k (re_nu K N n p) (re_lu K Lv n p) v → r < 0 → post r ((nI cs), f_callLimit, f_closureLimit, (nI n), (nI h), (nI L), f_stageReached, f_grown, f_codeLength, f_runningEngine, f_ending, f_callCount, f_closureCount, f_frame, f_waitingCount, a_kinds, a_operands, a_parents, a_places, a_children, a_levels, a_nests, a_scopes, a_nodeLambdas, a_lambdaNodes, a_liveNodes, a_nodeFlows, a_paramFlows, a_codeOps, a_codeNodes, a_codeTargets, a_branchSpots, a_entries, a_frameReturns, a_frameValues, a_closureLambdas, a_closureValues, a_waiting, a_records, a_calledSets))
    (h2 : pu_c cs n h L k (re_nu K N n p) (re_lu K Lv n p) v = nI n → ∀ o l pl' ch' le' ne' sc' nl' ln', re_A cs (n + 1) (h + tr_ar k - 1) (if k = 2 then L + 1 else L) (tr_put K n k) (tr_put P n p) (tr_put N n (re_nu K N n p)) (tr_put Lv n (re_lu K Lv n p)) (tr_put S n (re_su K S n p)) (tr_put O n o) (tr_put B n l) → re_X (n + 1) (tr_put K n k) (tr_put P n p) (tr_put N n (re_nu K N n p)) (tr_put Lv n (re_lu K Lv n p)) (tr_put S n (re_su K S n p)) (tr_put O n o) (tr_put B n l) (upd a_kinds n (nI k)) (upd a_operands n (pu_o k v)) (upd a_parents n (xp_p n p)) pl' ch' le' ne' sc' nl' ln' →
      post (nI n) ((nI cs), f_callLimit, f_closureLimit, (nI (n + 1)), (nI (h + tr_ar k - 1)), (nI (if k = 2 then L + 1 else L)), f_stageReached, f_grown, f_codeLength, f_runningEngine, f_ending, f_callCount, f_closureCount, f_frame, f_waitingCount, (upd a_kinds n (nI k)), (upd a_operands n (pu_o k v)), (upd a_parents n (xp_p n p)), pl', ch', le', ne', sc', nl', ln', a_liveNodes, a_nodeFlows, a_paramFlows, a_codeOps, a_codeNodes, a_codeTargets, a_branchSpots, a_entries, a_frameReturns, a_frameValues, a_closureLambdas, a_closureValues, a_waiting, a_records, a_calledSets)) :
    wpX_put post ((nI cs), f_callLimit, f_closureLimit, (nI n), (nI h), (nI L), f_stageReached, f_grown, f_codeLength, f_runningEngine, f_ending, f_callCount, f_closureCount, f_frame, f_waitingCount, a_kinds, a_operands, a_parents, a_places, a_children, a_levels, a_nests, a_scopes, a_nodeLambdas, a_lambdaNodes, a_liveNodes, a_nodeFlows, a_paramFlows, a_codeOps, a_codeNodes, a_codeTargets, a_branchSpots, a_entries, a_frameReturns, a_frameValues, a_closureLambdas, a_closureValues, a_waiting, a_records, a_calledSets) (nI k) v := by
  have hb := A.2.2.1
  have hcs := A.2.2.2.1
  have hL := A.2.2.2.2.1
  have hL16 := A.2.2.2.2.2.1
  have D := A.2.2.2.2.2.2.2.2.2.1
  have a3 := tr_ar_3' k
  have hi : vp_in (nI n) 48 := vp_in_nI (by omega) (by omega)
  have hc := nI_clamp (n := n) (by omega)
  have lit : ∀ {b : Nat}, b < 2 ^ 31 → nI k = nI b → k = b := fun hb w => (nI_eq (by omega) hb).mp w
  obtain ⟨x1, x2, x3, x4, x5, x6, x7, x8, x9⟩ := id X
  have pn : 0 < n → p < n := fun z => (hp z).1
  have f1 : 0 < n → a_kinds p = nI (K p) ∧ K p ≤ 6 := fun z => ⟨x1 p (pn z), (D p (pn z)).1⟩
  have f4 : 0 < n → K p = 2 → a_nodeLambdas p = nI (tr_lc K p) ∧ tr_lc K p < 16 := fun z k => ⟨(x8 p (pn z)).2.1 k, by have := tr_lc_lt (pn z) k; omega⟩
  have n47 : ∀ (y4 : Int32) (o l : Nat), ¬ (k = 0 ∧ (v < 0 ∨ nI (re_nu K N n p) ≤ v)) → (k = 0 → y4 = nI l ∧ v = nI o ∧ o < re_nu K N n p ∧ ∃ b, b < n ∧ K b = 2 ∧ (re_su K S n p).testBit (tr_lc K b) = true ∧ l = tr_lc K b ∧ N b + o + 1 = re_nu K N n p) → wX_put_47 post (nI k) v (xp_p n p) y4 (nI cs) f_callLimit f_closureLimit (nI n) (nI h) (nI L) f_stageReached f_grown f_codeLength f_runningEngine f_ending f_callCount f_closureCount f_frame f_waitingCount a_kinds a_operands a_parents a_places a_children a_levels a_nests a_scopes a_nodeLambdas a_lambdaNodes a_liveNodes a_nodeFlows a_paramFlows a_codeOps a_codeNodes a_codeTargets a_branchSpots a_entries a_frameReturns a_frameValues a_closureLambdas a_closureValues a_waiting a_records a_calledSets := fun y4 o l c1 hv => by
    unfold wX_put_47
    refine xx_childrenOf hk6 ?_
    rw [nI_add, nI_add]
    by_cases c2 : cs < n + h + tr_ar k
    · refine br_f (nI_ge c2 (by omega)) (h1 (-4) ?_ (by decide))
      unfold pu_c
      rw [if_neg c1, if_pos c2]
    refine br_t (nI_le (by omega) (by omega)) ?_
    refine xx_isTooDeep hk6 A hp f1 (fun z => (x7 p (pn z)).2.1) (fun z => (x7 p (pn z)).1) (fun d1 d2 => br_t rfl ?_) (fun d => br_f (by decide) (h1 (-5) ?_ (by decide)))
    · have c3 : ¬ ((k = 2 ∧ re_nu K N n p = 5) ∨ (3 ≤ k ∧ re_lu K Lv n p = 5)) := by
        rintro (z | z)
        · have := d1 z.1; omega
        · have := d2 z.1; omega
      have n100 : ¬ (k = 2 ∧ L = 16) → wX_put_100 post (nI k) v (xp_p n p) y4 (nI cs) f_callLimit f_closureLimit (nI n) (nI h) (nI L) f_stageReached f_grown f_codeLength f_runningEngine f_ending f_callCount f_closureCount f_frame f_waitingCount a_kinds a_operands a_parents a_places a_children a_levels a_nests a_scopes a_nodeLambdas a_lambdaNodes a_liveNodes a_nodeFlows a_paramFlows a_codeOps a_codeNodes a_codeTargets a_branchSpots a_entries a_frameReturns a_frameValues a_closureLambdas a_closureValues a_waiting a_records a_calledSets := fun c4 => by
        have e : pu_c cs n h L k (re_nu K N n p) (re_lu K Lv n p) v = nI n := by
          unfold pu_c
          rw [if_neg c1, if_neg c2, if_neg c3, if_neg c4]
        have A' := re_put (o := o) (l := l) A hh hk6 (by omega) hp (fun z => ⟨(hv z).2.2.1, (hv z).2.2.2⟩) (fun z => ⟨d1 z, by have : L ≠ 16 := fun w => c4 ⟨z, w⟩; omega⟩) d2
        unfold wX_put_100
        refine xx_placeUnder A hh hp X (fun ch' C' => ⟨hi, nm_e ?_⟩)
        rw [hc]
        have n137 : wX_put_137 post (nI k) y4 (pu_o k v) (nI n) (nI cs) f_callLimit f_closureLimit (nI n) (nI h) (nI L) f_stageReached f_grown f_codeLength f_runningEngine f_ending f_callCount f_closureCount f_frame f_waitingCount (upd a_kinds n (nI k)) a_operands (upd a_parents n (xp_p n p)) (upd a_places n (if n = 0 then 0 else nI (tr_cnt P p n))) ch' (upd a_levels n (nI (re_lu K Lv n p))) (upd a_nests n (nI (re_nu K N n p))) (upd a_scopes n (nI (re_su K S n p))) a_nodeLambdas a_lambdaNodes a_liveNodes a_nodeFlows a_paramFlows a_codeOps a_codeNodes a_codeTargets a_branchSpots a_entries a_frameReturns a_frameValues a_closureLambdas a_closureValues a_waiting a_records a_calledSets := by
          have X' : ∀ (nl1 : Int32) (ln' : Nat → Int32), (k = 0 → nl1 = nI l) → (k = 2 → nl1 = nI (tr_lc K n)) → (k ≠ 0 → k ≠ 2 → nl1 = -1) → (k = 2 → ln' = upd a_lambdaNodes (tr_lc K n) (nI n)) → (k ≠ 2 → ln' = a_lambdaNodes) → _ := fun nl1 ln' e5 e6 e7 e8 e9 =>
            re_X_put (k := k) (o := o) (l := l) (nu := re_nu K N n p) (lu := re_lu K Lv n p) (su := re_su K S n p) (od1 := pu_o k v) (pa1 := xp_p n p) (pl1 := if n = 0 then 0 else nI (tr_cnt P p n)) (nl1 := nl1) (ln' := ln') A.1 hp X C' (fun z => by rw [z]; exact (hv z).2.1) (fun z => by rw [z]; rfl) (fun z => xp_p1 p z) (fun z => if_neg (by omega)) e5 e6 e7 e8 e9
          have n198 : ∀ (nl' ln' : Nat → Int32) (L' : Nat), L' = (if k = 2 then L + 1 else L) → re_X (n + 1) (tr_put K n k) (tr_put P n p) (tr_put N n (re_nu K N n p)) (tr_put Lv n (re_lu K Lv n p)) (tr_put S n (re_su K S n p)) (tr_put O n o) (tr_put B n l) (upd a_kinds n (nI k)) (upd a_operands n (pu_o k v)) (upd a_parents n (xp_p n p)) (upd a_places n (if n = 0 then 0 else nI (tr_cnt P p n))) ch' (upd a_levels n (nI (re_lu K Lv n p))) (upd a_nests n (nI (re_nu K N n p))) (upd a_scopes n (nI (re_su K S n p))) nl' ln' → wX_put_198 post (nI k) (nI cs) f_callLimit f_closureLimit (nI n) (nI h) (nI L') f_stageReached f_grown f_codeLength f_runningEngine f_ending f_callCount f_closureCount f_frame f_waitingCount (upd a_kinds n (nI k)) (upd a_operands n (pu_o k v)) (upd a_parents n (xp_p n p)) (upd a_places n (if n = 0 then 0 else nI (tr_cnt P p n))) ch' (upd a_levels n (nI (re_lu K Lv n p))) (upd a_nests n (nI (re_nu K N n p))) (upd a_scopes n (nI (re_su K S n p))) nl' ln' a_liveNodes a_nodeFlows a_paramFlows a_codeOps a_codeNodes a_codeTargets a_branchSpots a_entries a_frameReturns a_frameValues a_closureLambdas a_closureValues a_waiting a_records a_calledSets := fun nl' ln' L' eL XX => by
            subst eL
            unfold wX_put_198
            refine xx_childrenOf hk6 (nm_r (pu_h hh a3 (by omega)) (nm_r (nI_1 n) ?_))
            rw [nI_pred]
            exact h2 e o l _ _ _ _ _ _ _ A' XX
          refine ⟨hi, nm_e ?_⟩
          rw [hc]
          by_cases z0 : k = 0
          · refine br_t (by rw [z0]; rfl) ⟨hi, nm_e (br_f (fun w => by have := lit (b := 2) (by decide) w; omega) ?_)⟩
            rw [hc]
            refine n198 _ _ L (if_neg (by omega)).symm (X' y4 a_lambdaNodes (fun z => (hv z).1) (fun z => by omega) (fun z _ => absurd z0 z) (fun z => by omega) (fun _ => rfl))
          · refine br_f (fun w => z0 (lit (b := 0) (by decide) w)) ⟨hi, nm_e ?_⟩
            rw [hc]
            by_cases z2 : k = 2
            · refine br_t (by rw [z2]; rfl) ⟨hi, nm_e ⟨vp_in_nI (by omega) (by omega), nm_e (nm_r (nI_1 L) ?_)⟩⟩
              rw [re_uu, nI_clamp (by omega)]
              exact n198 _ _ (L + 1) (if_pos z2).symm (X' (nI L) _ (fun z => absurd z z0) (fun _ => by rw [hL]) (fun _ z => absurd z2 z) (fun _ => by rw [hL]) (fun z => absurd z2 z))
            · refine br_f (fun w => z2 (lit (b := 2) (by decide) w)) ?_
              exact n198 _ _ L (if_neg z2).symm (X' (-1) a_lambdaNodes (fun z => absurd z z0) (fun z => absurd z z2) (fun _ _ => rfl) (fun z => absurd z z2) (fun _ => rfl))
        by_cases z0 : k = 0
        · refine br_t (by rw [z0]; rfl) ?_
          have : pu_o k v = v := if_pos (by omega)
          rw [this] at n137
          exact n137
        · refine br_f (fun w => z0 (lit (b := 0) (by decide) w)) ?_
          by_cases z1 : k = 1
          · refine br_t (by rw [z1]; rfl) ?_
            have : pu_o k v = v := if_pos (by omega)
            rw [this] at n137
            exact n137
          · refine br_f (fun w => z1 (lit (b := 1) (by decide) w)) ?_
            have : pu_o k v = 0 := if_neg (by omega)
            rw [this] at n137
            exact n137
      by_cases z : k = 2
      · refine br_t (by rw [z]; rfl) ?_
        by_cases y : L = 16
        · refine br_t (by rw [y]; rfl) (h1 (-6) ?_ (by decide))
          unfold pu_c
          rw [if_neg c1, if_neg c2, if_neg c3, if_pos ⟨z, y⟩]
        · exact br_f (fun w => y ((nI_eq (b := 16) (by omega) (by decide)).mp w)) (n100 (fun w => y w.2))
      · exact br_f (fun w => z (lit (b := 2) (by decide) w)) (n100 (fun w => z w.1))
    · unfold pu_c
      rw [if_neg c1, if_neg c2, if_pos d]
  refine br_f (nI_pos (by omega)) (br_t (nI_le (b := 6) hk6 (by decide)) (br_f (nI_ne0 hh (by omega)) ?_))
  refine xx_parent A.1 (by omega) (fun m hm => ⟨x1 m hm, (D m hm).1⟩) x6 hp ?_
  refine xx_binderAt A hp f1 (fun z => (x7 p (pn z)).2.2) f4 (fun o b o1 o2 o3 b1 b2 b3 b4 => ?_) (fun hu => ?_)
  · by_cases z : k = 0
    · have lb := tr_lc_lt b1 b2
      refine br_t (by rw [z]; rfl) (br_t (nI_pos' (by omega)) (n47 _ o (tr_lc K b) ?_ (fun _ => ⟨rfl, o2, o3, b, b1, b2, b3, rfl, b4⟩)))
      rintro ⟨_, w | w⟩
      · rw [o2] at w; exact nI_pos o1 w
      · rw [o2] at w
        have := (re_nu_5 A hp).1
        exact nI_ge o3 (by omega) w
    · exact br_f (fun w => z (lit (b := 0) (by decide) w)) (n47 _ 0 0 (fun w => z w.1) (fun w => absurd w z))
  · by_cases z : k = 0
    · refine br_t (by rw [z]; rfl) (br_f (by decide) (h1 (-3) ?_ (by decide)))
      unfold pu_c
      rw [if_pos ⟨z, hu⟩]
    · exact br_f (fun w => z (lit (b := 0) (by decide) w)) (n47 _ 0 0 (fun w => z w.1) (fun w => absurd w z))
end
