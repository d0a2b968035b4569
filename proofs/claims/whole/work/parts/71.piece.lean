/-! ===== the class: a piece ===== -/
section
variable {f_cellLimit f_callLimit f_closureLimit f_nodes f_holes f_lambdas f_stageReached f_grown f_codeLength f_runningEngine f_ending f_callCount f_closureCount f_frame f_waitingCount : Int32} {a_kinds a_operands a_parents a_places a_children a_levels a_nests a_scopes a_nodeLambdas a_lambdaNodes a_liveNodes a_nodeFlows a_paramFlows a_codeOps a_codeNodes a_codeTargets a_branchSpots a_entries a_frameReturns a_closureLambdas a_records a_calledSets : Nat → Int32} {a_closureValues a_frameValues a_waiting : Nat → Int64}
variable {cs n L : Nat} {K P N Lv S O B : Nat → Nat} {t : so_S}
theorem xx_before3 {post : Int32 → SX → Prop} {m : Nat} (A : re_A cs n 0 L K P N Lv S O B) (XT : re_X n K P N Lv S O B a_kinds a_operands a_parents a_places a_children a_levels a_nests a_scopes a_nodeLambdas a_lambdaNodes) (hm : m < n) (k : 3 ≤ K m) (h3 : post (nI (m + 1)) (f_cellLimit, f_callLimit, f_closureLimit, f_nodes, f_holes, f_lambdas, f_stageReached, f_grown, f_codeLength, f_runningEngine, f_ending, f_callCount, f_closureCount, f_frame, f_waitingCount, a_kinds, a_operands, a_parents, a_places, a_children, a_levels, a_nests, a_scopes, a_nodeLambdas, a_lambdaNodes, a_liveNodes, a_nodeFlows, a_paramFlows, a_codeOps, a_codeNodes, a_codeTargets, a_branchSpots, a_entries, a_frameReturns, a_frameValues, a_closureLambdas, a_closureValues, a_waiting, a_records, a_calledSets)) : wpX_emitBefore post (f_cellLimit, f_callLimit, f_closureLimit, f_nodes, f_holes, f_lambdas, f_stageReached, f_grown, f_codeLength, f_runningEngine, f_ending, f_callCount, f_closureCount, f_frame, f_waitingCount, a_kinds, a_operands, a_parents, a_places, a_children, a_levels, a_nests, a_scopes, a_nodeLambdas, a_lambdaNodes, a_liveNodes, a_nodeFlows, a_paramFlows, a_codeOps, a_codeNodes, a_codeTargets, a_branchSpots, a_entries, a_frameReturns, a_frameValues, a_closureLambdas, a_closureValues, a_waiting, a_records, a_calledSets) (nI m) := by
  have hn : n ≤ 48 := by have := A.2.2.1; have := A.2.2.2.1; omega
  have k6 := (A.2.2.2.2.2.2.2.2.2.1 m hm).1
  obtain ⟨r1, r2, _⟩ := re_kid0 A XT hm (by omega)
  refine ⟨vp_in_nI (by omega) (by omega), ?_⟩
  rw [nI_clamp (by omega)]
  refine nm_r (XT.1 m hm) (br_f (nI_pos (by omega)) (br_t (nI_lt (a := 2) (by omega) (by omega)) (xx_childAt (k := 0) (by omega) (by omega) ?_)))
  rw [r2]
  exact h3
/-- the loop of emitPiece keeps the rules of emission -/
theorem xe_R {post : SX → Prop} {st : Nat} (A : re_A cs n 0 L K P N Lv S O B) (XT : re_X n K P N Lv S O B a_kinds a_operands a_parents a_places a_children a_levels a_nests a_scopes a_nodeLambdas a_lambdaNodes) (hst : st < n) (R : so_R n L t) (X : so_X n L t a_liveNodes a_nodeFlows a_paramFlows) :
    em_R K (tr_e P n) t.1 (cm_sk (tr_e P n) t) st n (fun b c a => ∀ s f, s + b < 1000000 → b < f → wX_emitPiece_4 post (nI st) f (xe_c c) (nI s) f_cellLimit f_callLimit f_closureLimit f_nodes f_holes f_lambdas f_stageReached f_grown (nI a.1) f_runningEngine f_ending f_callCount f_closureCount f_frame f_waitingCount a_kinds a_operands a_parents a_places a_children a_levels a_nests a_scopes a_nodeLambdas a_lambdaNodes a_liveNodes a_nodeFlows a_paramFlows (rn_F a.2.1) (rn_F a.2.2.1) (rn_F a.2.2.2.1) (rn_F a.2.2.2.2) a_entries a_frameReturns a_frameValues a_closureLambdas a_closureValues a_waiting a_records a_calledSets) := by
  have hn : n ≤ 48 := by have := A.2.2.1; have := A.2.2.2.1; omega
  obtain ⟨_, F⟩ := re_full A
  have lim : ∀ {s : Nat}, s < 1000000 → ¬ (1000000 : Int32) ≤ nI s := fun h => nI_ge (b := 1000000) h (by decide)
  have ne0 : ∀ {m : Nat}, m < n → ¬ nI m = nI st ^^^ (-1) := fun {m} hm e => by
    have h1 := (xe_n st (by omega)).1
    rw [← e] at h1
    exact nI_pos (by omega) h1
  have ne1 : ∀ {m : Nat}, m < n → st < m → ¬ nI m ^^^ (-1) = nI st ^^^ (-1) := fun {m} hm hs e => by
    have := xe_inj (by omega) (by omega) e
    omega
  have ng : ∀ {m : Nat}, m < n → (nI m ^^^ (-1)) < 0 := fun {m} hm => (xe_n m (by omega)).1
  have bk : ∀ {m : Nat}, m < n → (nI m ^^^ (-1)) ^^^ (-1) = nI m := fun {m} hm => (xe_n m (by omega)).2
  refine ⟨?_, ?_, ?_, ?_, ?_, ?_, ?_, ?_, ?_, ?_, ?_⟩
  · intro b d c a H s f h1 h2
    exact H s f (by omega) (by omega)
  · intro b m z oc nd tg bs hs hm k hz H s f h1 h2
    obtain ⟨f, rfl⟩ : ∃ f', f = f' + 1 := ⟨f - 1, by omega⟩
    refine br_f (lim (by omega)) (br_f (ne0 hm) (br_f (nI_pos (by omega)) (xx_before A XT hm hz (fun _ => nm_r (nI_1 s) ?_) (fun w => by omega))))
    rw [if_pos k]
    exact H (s + 1) f (by omega) (by omega)
  · intro b m z oc nd tg bs hs hm k hz H s f h1 h2
    obtain ⟨f, rfl⟩ : ∃ f', f = f' + 1 := ⟨f - 1, by omega⟩
    refine br_f (lim (by omega)) (br_f (ne0 hm) (br_f (nI_pos (by omega)) (xx_before A XT hm hz (fun _ => nm_r (nI_1 s) ?_) (fun w => by omega))))
    rw [if_neg (by omega), if_pos k]
    exact H (s + 1) f (by omega) (by omega)
  · intro b m z oc nd tg bs hs hm k hz H s f h1 h2
    obtain ⟨f, rfl⟩ : ∃ f', f = f' + 1 := ⟨f - 1, by omega⟩
    refine br_f (lim (by omega)) (br_f (ne0 hm) (br_f (nI_pos (by omega)) (xx_before A XT hm hz (fun _ => nm_r (nI_1 s) ?_) (fun w => by omega))))
    rw [if_neg (by omega), if_neg (by omega)]
    exact H (s + 1) f (by omega) (by omega)
  · intro b m a hs hm k H s f h1 h2
    obtain ⟨f, rfl⟩ : ∃ f', f = f' + 1 := ⟨f - 1, by omega⟩
    obtain ⟨z, oc, nd, tg, bs⟩ := a
    obtain ⟨r1, r2, r3, r4⟩ := re_kid0 A XT hm (by omega)
    have k6 := (A.2.2.2.2.2.2.2.2.2.1 m hm).1
    exact br_f (lim (by omega)) (br_f (ne0 hm) (br_f (nI_pos (by omega)) (xx_before3 A XT hm k (nm_r (nI_1 s) (H (s + 1) f (by omega) (by omega))))))
  · intro b m a hs hm k k6 H s f h1 h2
    obtain ⟨f, rfl⟩ : ∃ f', f = f' + 1 := ⟨f - 1, by omega⟩
    obtain ⟨z, oc, nd, tg, bs⟩ := a
    obtain ⟨r1, r2⟩ := tr_par1 A.1 F hm (by omega)
    refine br_f (lim (by omega)) (br_f (ne1 r1 (by omega)) (br_t (ng r1) ?_))
    have e : (xe_c (Sum.inr (m + 1)) ^^^ (-1)) = nI (m + 1) := bk r1
    rw [e]
    exact (xx_after A XT hm k k6 R X).1 (nm_r (nI_1 s) (H (s + 1) f (by omega) (by omega)))
  · intro b m z oc nd tg bs hs hm k k6 hz H s f h1 h2
    obtain ⟨f, rfl⟩ : ∃ f', f = f' + 1 := ⟨f - 1, by omega⟩
    obtain ⟨s0, s1, s2⟩ := tr_par2 A.1 F hm k
    refine br_f (lim (by omega)) (br_f (ne1 s1 (by omega)) (br_t (ng s1) ?_))
    have e : (xe_c (Sum.inr (tr_e P n (m + 1))) ^^^ (-1)) = nI (tr_e P n (m + 1)) := bk s1
    rw [e]
    exact (xx_after A XT hm k k6 R X).2 hz (nm_r (nI_1 s) (H (s + 1) f (by omega) (by omega)))
  · intro b m z oc nd tg bs hs hm k6 q hz H s f h1 h2
    obtain ⟨f, rfl⟩ : ∃ f', f = f' + 1 := ⟨f - 1, by omega⟩
    obtain ⟨r1, r2⟩ := tr_par1 A.1 F hm (by omega)
    refine br_f (lim (by omega)) (br_f (ne1 r1 (by omega)) (br_t (ng r1) ?_))
    have e : (xe_c (Sum.inr (m + 1)) ^^^ (-1)) = nI (m + 1) := bk r1
    rw [e]
    exact (xx_after6 A XT hm k6 R X).1 hz q (nm_r (nI_1 s) (H (s + 1) f (by omega) (by omega)))
  · intro b m z oc nd tg bs hs hm k6 q hz H s f h1 h2
    obtain ⟨f, rfl⟩ : ∃ f', f = f' + 1 := ⟨f - 1, by omega⟩
    obtain ⟨r1, r2⟩ := tr_par1 A.1 F hm (by omega)
    refine br_f (lim (by omega)) (br_f (ne1 r1 (by omega)) (br_t (ng r1) ?_))
    have e : (xe_c (Sum.inr (m + 1)) ^^^ (-1)) = nI (m + 1) := bk r1
    rw [e]
    exact (xx_after6 A XT hm k6 R X).2.1 hz q (nm_r (nI_1 s) (H (s + 1) f (by omega) (by omega)))
  · intro b m z y oc nd tg bs hs hm k6 hz hb hy H s f h1 h2
    obtain ⟨f, rfl⟩ : ∃ f', f = f' + 1 := ⟨f - 1, by omega⟩
    obtain ⟨s0, s1, s2⟩ := tr_par2 A.1 F hm (by omega)
    subst hb
    refine br_f (lim (by omega)) (br_f (ne1 s1 (by omega)) (br_t (ng s1) ?_))
    have e : (xe_c (Sum.inr (tr_e P n (m + 1))) ^^^ (-1)) = nI (tr_e P n (m + 1)) := bk s1
    rw [e]
    exact (xx_after6 A XT hm k6 R X).2.2.1 hz hy (nm_r (nI_1 s) (H (s + 1) f (by omega) (by omega)))
  · intro b m z y x oc nd tg bs hs hm k6 hb hy ht hx hz H s f h1 h2
    obtain ⟨f, rfl⟩ : ∃ f', f = f' + 1 := ⟨f - 1, by omega⟩
    obtain ⟨w0, w1, w2⟩ := tr_par3 A.1 F hm k6
    subst hb
    refine br_f (lim (by omega)) (br_f (ne1 w1 (by omega)) (br_t (ng w1) ?_))
    have e : (xe_c (Sum.inr (tr_e P n (tr_e P n (m + 1)))) ^^^ (-1)) = nI (tr_e P n (tr_e P n (m + 1))) := bk w1
    rw [e]
    exact (xx_after6 A XT hm k6 R X).2.2.2 x hz hy ht hx (nm_r (nI_1 s) (H (s + 1) f (by omega) (by omega)))
/-- a piece: its code and its return -/
theorem xx_piece {post : SX → Prop} {st z : Nat} {oc nd tg bs : Nat → Nat} (A : re_A cs n 0 L K P N Lv S O B) (XT : re_X n K P N Lv S O B a_kinds a_operands a_parents a_places a_children a_levels a_nests a_scopes a_nodeLambdas a_lambdaNodes) (hst : st < n) (R : so_R n L t) (X : so_X n L t a_liveNodes a_nodeFlows a_paramFlows) {ky : Nat → Nat} (Y : em_ky K (tr_e P n) ky n) (hz : z + 2 * em_kc ky (tr_e P n) st < 113)
    (h : ∀ d x oc' nd' tg' bs', la_c K (tr_e P n) t.1 (cm_sk (tr_e P n) t) oc' nd' tg' d st z x → x ≤ z + 2 * em_kc ky (tr_e P n) st → em_ag z oc nd tg oc' nd' tg' → post (f_cellLimit, f_callLimit, f_closureLimit, f_nodes, f_holes, f_lambdas, f_stageReached, f_grown, (nI (x + 1)), f_runningEngine, f_ending, f_callCount, f_closureCount, f_frame, f_waitingCount, a_kinds, a_operands, a_parents, a_places, a_children, a_levels, a_nests, a_scopes, a_nodeLambdas, a_lambdaNodes, a_liveNodes, a_nodeFlows, a_paramFlows, (rn_F (tr_put oc' x 9)), (rn_F (tr_put nd' x st)), (rn_F tg'), (rn_F bs'), a_entries, a_frameReturns, a_frameValues, a_closureLambdas, a_closureValues, a_waiting, a_records, a_calledSets)) :
    wpX_emitPiece post (f_cellLimit, f_callLimit, f_closureLimit, f_nodes, f_holes, f_lambdas, f_stageReached, f_grown, (nI z), f_runningEngine, f_ending, f_callCount, f_closureCount, f_frame, f_waitingCount, a_kinds, a_operands, a_parents, a_places, a_children, a_levels, a_nests, a_scopes, a_nodeLambdas, a_lambdaNodes, a_liveNodes, a_nodeFlows, a_paramFlows, (rn_F oc), (rn_F nd), (rn_F tg), (rn_F bs), a_entries, a_frameReturns, a_frameValues, a_closureLambdas, a_closureValues, a_waiting, a_records, a_calledSets) (nI st) := by
  have hn : n ≤ 48 := by have := A.2.2.1; have := A.2.2.2.1; omega
  obtain ⟨_, F⟩ := re_full A
  have T := tr_T_of A.1 F
  have D := A.2.2.2.2.2.2.2.2.2.1
  have Ru := xe_R (post := post) (f_cellLimit := f_cellLimit) (f_callLimit := f_callLimit) (f_closureLimit := f_closureLimit) (f_nodes := f_nodes) (f_holes := f_holes) (f_lambdas := f_lambdas) (f_stageReached := f_stageReached) (f_grown := f_grown) (f_runningEngine := f_runningEngine) (f_ending := f_ending) (f_callCount := f_callCount) (f_closureCount := f_closureCount) (f_frame := f_frame) (f_waitingCount := f_waitingCount) (a_entries := a_entries) (a_frameReturns := a_frameReturns) (a_frameValues := a_frameValues) (a_closureLambdas := a_closureLambdas) (a_closureValues := a_closureValues) (a_waiting := a_waiting) (a_records := a_records) (a_calledSets := a_calledSets) A XT hst R X
  have run := em_run T hn (fun m hm => (D m hm).1) (em_K_of T Y) Ru (tr_e P n st - st) st (Nat.le_refl _) hst (Nat.le_refl _) 1 z oc nd tg bs (by omega) (fun x oc' nd' tg' bs' l u g _ => fun s f h1 h2 => by
    obtain ⟨f, rfl⟩ : ∃ f', f = f' + 1 := ⟨f - 1, by omega⟩
    refine br_f (nI_ge (b := 1000000) (by omega) (by decide)) (br_t rfl ?_)
    unfold wX_emitPiece_44
    exact xx_emit (op := 9) (by omega) (h _ x oc' nd' tg' bs' l u g))
  have he := (T st hst).2.1
  exact ⟨1000, run 0 1000 (by omega) (by omega)⟩
end
