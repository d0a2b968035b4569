/-! ===== the class: the interpreter keeps the machine's rules ===== -/
def xi_n (c : Sum Nat Nat) : Nat := match c with
  | .inl m => m
  | .inr m => m
section
variable {f_cellLimit f_callLimit f_closureLimit f_nodes f_holes f_lambdas f_stageReached f_grown f_codeLength f_runningEngine f_ending f_callCount f_closureCount f_frame f_waitingCount : Int32} {a_kinds a_operands a_parents a_places a_children a_levels a_nests a_scopes a_nodeLambdas a_lambdaNodes a_liveNodes a_nodeFlows a_paramFlows a_codeOps a_codeNodes a_codeTargets a_branchSpots a_entries a_frameReturns a_closureLambdas a_records a_calledSets : Nat → Int32} {a_closureValues a_frameValues a_waiting : Nat → Int64}
variable {cs n L cl cm E : Nat} {K P N Lv S O B : Nat → Nat} {old : Nat → Int32}
theorem xi_R {post : SX → Prop} (A : re_A cs n 0 L K P N Lv S O B) (XT : re_X n K P N Lv S O B a_kinds a_operands a_parents a_places a_children a_levels a_nests a_scopes a_nodeLambdas a_lambdaNodes) (hE : E < 2) (hcl : cl ≤ 48) (h64 : cm ≤ 64) :
    am_R K (tr_e P n) N Lv (re_ix N O) a_operands (ru_m K) cl cm n
      (fun b c a => ∀ st f ca co cll clv fr ret fv wc wt, st + b < 1000000 → b < f → xr_P (tr_lc K) N N (xi_n c) a ca co cll clv fr ret fv wc wt → wX_interpret_4 post f (xe_c c) (nI st) f_cellLimit (nI cl) (nI cm) f_nodes f_holes f_lambdas f_stageReached f_grown f_codeLength (nI E) (nI 0) ca co fr wc a_kinds a_operands a_parents a_places a_children a_levels a_nests a_scopes a_nodeLambdas a_lambdaNodes a_liveNodes a_nodeFlows a_paramFlows a_codeOps a_codeNodes a_codeTargets a_branchSpots a_entries ret fv cll clv wt a_records (re_cs E old a.1.2.2.2.2))
      (fun x s => ∀ cll clv fr ret fv wc wt, post (f_cellLimit, (nI cl), (nI cm), f_nodes, f_holes, f_lambdas, f_stageReached, f_grown, f_codeLength, (nI E), (nI x.1), (nI s.1), (nI s.2.1), fr, wc, a_kinds, a_operands, a_parents, a_places, a_children, a_levels, a_nests, a_scopes, a_nodeLambdas, a_lambdaNodes, a_liveNodes, a_nodeFlows, a_paramFlows, a_codeOps, a_codeNodes, a_codeTargets, a_branchSpots, a_entries, ret, fv, cll, clv, wt, (ru_r E a_records (nI x.1) (nI 0) (nI x.2) (nI s.1) (nI s.2.1)), (re_cs E old s.2.2.2.2))) := by
  have hn : n ≤ 48 := by have := A.2.2.1; have := A.2.2.2.1; omega
  obtain ⟨_, F0⟩ := re_full A
  have C : tr_C K (tr_e P n) N n := tr_C_of A.1 F0 A.2.2.2.2.2.2.1
  have D := A.2.2.2.2.2.2.2.2.2.1
  have lim : ∀ {s : Nat}, s < 1000000 → ¬ (1000000 : Int32) ≤ nI s := fun h => nI_ge (b := 1000000) h (by decide)
  have ng : ∀ {m : Nat}, m < n → (nI m ^^^ (-1)) < 0 := fun {m} hm => (xe_n m (by omega)).1
  have bk : ∀ {m : Nat}, m < n → (xe_c (.inr m) ^^^ (-1)) = nI m := fun {m} hm => (xe_n m (by omega)).2
  have c64 : ∀ {s : ev_S}, ev_W K N n cl cm s → s.2.1 ≤ 64 := fun Wf => by have := Wf.2.1; omega
  -- after an end
  have fin : ∀ {f st : Nat} {r : Int32} {x : Nat × Nat} {s : ev_S} {cll clv fr ret fv wc wt}, (x.1 = 3 ∨ x.1 = 4 ∨ x.1 = 5) → 0 < f → st < 1000000 → post (f_cellLimit, (nI cl), (nI cm), f_nodes, f_holes, f_lambdas, f_stageReached, f_grown, f_codeLength, (nI E), (nI x.1), (nI s.1), (nI s.2.1), fr, wc, a_kinds, a_operands, a_parents, a_places, a_children, a_levels, a_nests, a_scopes, a_nodeLambdas, a_lambdaNodes, a_liveNodes, a_nodeFlows, a_paramFlows, a_codeOps, a_codeNodes, a_codeTargets, a_branchSpots, a_entries, ret, fv, cll, clv, wt, (ru_r E a_records (nI x.1) (nI 0) (nI x.2) (nI s.1) (nI s.2.1)), (re_cs E old s.2.2.2.2)) → wX_interpret_4 post f r (nI st) f_cellLimit (nI cl) (nI cm) f_nodes f_holes f_lambdas f_stageReached f_grown f_codeLength (nI E) (nI x.1) (nI s.1) (nI s.2.1) fr wc a_kinds a_operands a_parents a_places a_children a_levels a_nests a_scopes a_nodeLambdas a_lambdaNodes a_liveNodes a_nodeFlows a_paramFlows a_codeOps a_codeNodes a_codeTargets a_branchSpots a_entries ret fv cll clv wt (ru_r E a_records (nI x.1) (nI 0) (nI x.2) (nI s.1) (nI s.2.1)) (re_cs E old s.2.2.2.2) := by
    intro f st r x s cll clv fr ret fv wc wt hx hf hs hp
    obtain ⟨f, rfl⟩ : ∃ f', f = f' + 1 := ⟨f - 1, by omega⟩
    have ne : ¬ nI x.1 = 0 := nI_ne0 (by omega) (by omega)
    exact br_f (lim hs) (br_f ne hp)
  -- behind node c whose parent is m
  refine ⟨?_, ?_, ?_, ?_, ?_, ?_, ?_, ?_, ?_, ?_, ?_, ?_, ?_, ?_, ?_, ?_⟩
  · intro b d c a H st f ca co cll clv fr ret fv wc wt h1 h2 hr
    exact H st f ca co cll clv fr ret fv wc wt (by omega) (by omega) hr
  · intro b m s fr' F R w W hm k hf hw H st f ca co cll clv fr ret fv wc wt h1 h2 hr
    obtain ⟨f, rfl⟩ : ∃ f', f = f' + 1 := ⟨f - 1, by omega⟩
    refine br_f (lim (by omega)) (br_t rfl (br_f (nI_pos (by omega)) ⟨vp_in_nI (by omega) (by omega), ?_⟩))
    have e : a_kinds (xe_c (.inl m)).toNatClampNeg = nI 0 := by
      show a_kinds (nI m).toNatClampNeg = _
      rw [nI_clamp (by omega), XT.1 m hm, k]
    refine nm_r e (br_f (by decide) (br_f (by decide) (br_t rfl ?_)))
    refine xo_var (nn := N) A XT hm k hf hw rfl hr (fun wc' wt' hr' => nm_r (nI_1 st) ?_)
    exact H (st + 1) f _ _ _ _ _ _ _ _ _ (by omega) (by omega) hr'
  · intro b m s fr' F R w W hm k hf hw H st f ca co cll clv fr ret fv wc wt h1 h2 hr
    obtain ⟨f, rfl⟩ : ∃ f', f = f' + 1 := ⟨f - 1, by omega⟩
    have v : vp_in (nI m) 48 := vp_in_nI (by omega) (by omega)
    refine br_f (lim (by omega)) (br_t rfl (br_f (nI_pos (by omega)) ⟨v, ?_⟩))
    have e : a_kinds (xe_c (.inl m)).toNatClampNeg = nI 1 := by
      show a_kinds (nI m).toNatClampNeg = _
      rw [nI_clamp (by omega), XT.1 m hm, k]
    have eo : a_operands (xe_c (.inl m)).toNatClampNeg = a_operands m := by
      show a_operands (nI m).toNatClampNeg = _
      rw [nI_clamp (by omega)]
    rw [eo]
    refine nm_r e (br_f (by decide) (br_f (by decide) (br_f (by decide) (br_t rfl ⟨v, ?_⟩))))
    refine xo_num (nn := N) (a_operands m) hw hr (fun wc' wt' hr' => nm_r (nI_1 st) ?_)
    exact H (st + 1) f _ _ _ _ _ _ _ _ _ (by omega) (by omega) hr'
  · intro b m s fr' F R w W hm k hf hw hc J st f ca co cll clv fr ret fv wc wt h1 h2 hr
    obtain ⟨f, rfl⟩ : ∃ f', f = f' + 1 := ⟨f - 1, by omega⟩
    refine br_f (lim (by omega)) (br_t rfl (br_f (nI_pos (by omega)) ⟨vp_in_nI (by omega) (by omega), ?_⟩))
    have e : a_kinds (xe_c (.inl m)).toNatClampNeg = nI 2 := by
      show a_kinds (nI m).toNatClampNeg = _
      rw [nI_clamp (by omega), XT.1 m hm, k]
    refine nm_r e (br_f (by decide) (br_f (by decide) (br_f (by decide) (br_f (by decide) (br_t rfl ?_)))))
    refine xo_lamF (m := m) hE h64 hc hr (nm_r (nI_1 st) ?_)
    exact fin (x := (5, m)) (Or.inr (Or.inr rfl)) (by omega) (by omega) (J _ _ _ _ _ _ _)
  · intro b m s fr' F R w W hm k hf hw Wf hc H st f ca co cll clv fr ret fv wc wt h1 h2 hr
    obtain ⟨f, rfl⟩ : ∃ f', f = f' + 1 := ⟨f - 1, by omega⟩
    refine br_f (lim (by omega)) (br_t rfl (br_f (nI_pos (by omega)) ⟨vp_in_nI (by omega) (by omega), ?_⟩))
    have e : a_kinds (xe_c (.inl m)).toNatClampNeg = nI 2 := by
      show a_kinds (nI m).toNatClampNeg = _
      rw [nI_clamp (by omega), XT.1 m hm, k]
    refine nm_r e (br_f (by decide) (br_f (by decide) (br_f (by decide) (br_f (by decide) (br_t rfl ?_)))))
    refine xo_lam (nn := N) A XT hm k hf hw h64 Wf hc rfl hr (fun co' cll' clv' wc' wt' hr' => nm_r (nI_1 st) ?_)
    exact H (st + 1) f _ _ _ _ _ _ _ _ _ (by omega) (by omega) hr'
  · intro b m s fr' F R w W hm k H st f ca co cll clv fr ret fv wc wt h1 h2 hr
    obtain ⟨f, rfl⟩ : ∃ f', f = f' + 1 := ⟨f - 1, by omega⟩
    obtain ⟨r1, r2, r3, r4⟩ := re_kid0 A XT hm (by omega)
    have k6 := (D m hm).1
    refine br_f (lim (by omega)) (br_t rfl (br_f (nI_pos (by omega)) ⟨vp_in_nI (by omega) (by omega), ?_⟩))
    have e : a_kinds (xe_c (.inl m)).toNatClampNeg = nI (K m) := by
      show a_kinds (nI m).toNatClampNeg = _
      rw [nI_clamp (by omega), XT.1 m hm]
    refine nm_r e (br_f (nI_pos (by omega)) (br_t (nI_lt (a := 2) (by omega) (by omega)) (xx_childAt (p := m) (k := 0) (by omega) (by omega) ?_)))
    rw [r2]
    exact nm_r (nI_1 st) (H (st + 1) f _ _ _ _ _ _ _ _ _ (by omega) (by omega) (xr_ctl hr ((C m hm).2 k).1))
  · intro b m s fr' F R w W hm k k6 H st f ca co cll clv fr ret fv wc wt h1 h2 hr
    obtain ⟨f, rfl⟩ : ∃ f', f = f' + 1 := ⟨f - 1, by omega⟩
    obtain ⟨r1, r2, r3, r4⟩ := re_kid0 A XT hm (by omega)
    obtain ⟨s1, s2, s3, s4⟩ := re_kid1 A XT hm (by omega)
    have k6' := (D m hm).1
    have v : vp_in (nI (m + 1)) 48 := vp_in_nI (by omega) (by omega)
    have hc := nI_clamp (n := m + 1) (by omega)
    refine br_f (lim (by omega)) (br_t rfl (br_t (ng r1) ?_))
    rw [bk r1]
    refine ⟨v, ?_⟩
    rw [hc]
    refine nm_r r3 (br_t (nI_pos' (by omega)) ⟨vp_in_nI (by omega) (by omega), ?_⟩)
    rw [nI_clamp (n := m) (by omega), r4]
    have nx : wX_interpret_4 post f (nI (tr_e P n (m + 1))) (nI (st + 1)) _ _ _ _ _ _ _ _ _ _ _ _ _ _ _ _ _ _ _ _ _ _ _ _ _ _ _ _ _ _ _ _ _ _ _ _ _ _ _ _ := H (st + 1) f _ _ _ _ _ _ _ _ _ (by omega) (by omega) (xr_ctl hr (((C m hm).2 k).2.1.trans ((C m hm).2 k).1.symm))
    have kid : ∀ {post' : Int32 → Prop}, post' (nI (tr_e P n (m + 1))) → wpX_childAt post' (f_cellLimit, (nI cl), (nI cm), f_nodes, f_holes, f_lambdas, f_stageReached, f_grown, f_codeLength, (nI E), (nI 0), ca, co, fr, wc, a_kinds, a_operands, a_parents, a_places, a_children, a_levels, a_nests, a_scopes, a_nodeLambdas, a_lambdaNodes, a_liveNodes, a_nodeFlows, a_paramFlows, a_codeOps, a_codeNodes, a_codeTargets, a_branchSpots, a_entries, ret, fv, cll, clv, wt, a_records, (re_cs E old s.2.2.2.2)) (nI m) (nI 1) := fun hp => xx_childAt (by omega) (by omega) (by rw [s2]; exact hp)
    have hc3 : K m = 3 ∨ K m = 4 ∨ K m = 5 := by omega
    refine nm_r (XT.1 m hm) ?_
    rcases hc3 with q | q | q
    · rw [q]
      exact br_f (by decide) (br_f (by decide) (br_f (by decide) (br_t rfl ⟨v, br_t rfl (kid (nm_r (nI_1 st) nx))⟩)))
    · rw [q]
      refine br_f (by decide) (br_f (by decide) (br_f (by decide) (br_f (by decide) (br_t rfl ⟨v, ?_⟩))))
      rw [hc, r4]
      exact br_t rfl (kid (nm_r (nI_1 st) nx))
    · rw [q]
      refine br_f (by decide) (br_f (by decide) (br_f (by decide) (br_f (by decide) (br_f (by decide) (br_t rfl ⟨v, ?_⟩)))))
      rw [hc, r4]
      exact br_t rfl (kid (nm_r (nI_1 st) nx))
  · -- IF0 on a closure
    intro b m s fr' F R w W k hm k6 hw Wf hk J st f ca co cll clv fr ret fv wc wt h1 h2 hr
    obtain ⟨f, rfl⟩ : ∃ f', f = f' + 1 := ⟨f - 1, by omega⟩
    obtain ⟨r1, r2, r3, r4⟩ := re_kid0 A XT hm (by omega)
    obtain ⟨s1, s2, s3, s4⟩ := re_kid1 A XT hm (by omega)
    obtain ⟨w1, w2, w3, w4⟩ := re_kid2 A XT hm k6
    have v : vp_in (nI (m + 1)) 48 := vp_in_nI (by omega) (by omega)
    have hc := nI_clamp (n := m + 1) (by omega)
    have := c64 Wf
    refine br_f (lim (by omega)) (br_t rfl (br_t (ng r1) ?_))
    rw [bk r1]
    refine ⟨v, ?_⟩
    rw [hc]
    refine nm_r r3 (br_t (nI_pos' (by omega)) ⟨vp_in_nI (by omega) (by omega), ?_⟩)
    rw [nI_clamp (n := m) (by omega), r4]
    refine nm_r (XT.1 m hm) ?_
    rw [k6]
    refine br_f (by decide) (br_f (by decide) (br_f (by decide) (br_f (by decide) (br_f (by decide) (br_f (by decide) (br_t rfl ⟨v, br_t rfl ?_⟩))))))
    unfold wpX_beginBranch
    refine xx_childAt (k := 1) (by omega) (by omega) ?_
    rw [s2]
    refine xx_childAt (k := 2) (by omega) (by omega) ?_
    rw [w2]
    refine xo_ifS hE hw (by omega) hr (fun r wc' => nm_r (nI_1 st) ?_)
    exact fin (x := (3, m)) (Or.inl rfl) (by omega) (by omega) (J _ _ _ _ _ _ _)
  · -- IF0 on a number
    intro b m s fr' F R w W i hm k6 hw H st f ca co cll clv fr ret fv wc wt h1 h2 hr
    obtain ⟨f, rfl⟩ : ∃ f', f = f' + 1 := ⟨f - 1, by omega⟩
    obtain ⟨r1, r2, r3, r4⟩ := re_kid0 A XT hm (by omega)
    obtain ⟨s1, s2, s3, s4⟩ := re_kid1 A XT hm (by omega)
    obtain ⟨w1, w2, w3, w4⟩ := re_kid2 A XT hm k6
    have v : vp_in (nI (m + 1)) 48 := vp_in_nI (by omega) (by omega)
    have hc := nI_clamp (n := m + 1) (by omega)
    refine br_f (lim (by omega)) (br_t rfl (br_t (ng r1) ?_))
    rw [bk r1]
    refine ⟨v, ?_⟩
    rw [hc]
    refine nm_r r3 (br_t (nI_pos' (by omega)) ⟨vp_in_nI (by omega) (by omega), ?_⟩)
    rw [nI_clamp (n := m) (by omega), r4]
    refine nm_r (XT.1 m hm) ?_
    rw [k6]
    refine br_f (by decide) (br_f (by decide) (br_f (by decide) (br_f (by decide) (br_f (by decide) (br_f (by decide) (br_t rfl ⟨v, br_t rfl ?_⟩))))))
    unfold wpX_beginBranch
    refine xx_childAt (k := 1) (by omega) (by omega) ?_
    rw [s2]
    refine xx_childAt (k := 2) (by omega) (by omega) ?_
    rw [w2]
    refine xo_if (nn := N) i hw hr (fun wc' hr' => nm_r (nI_1 st) ?_)
    obtain ⟨c1, c2, c3⟩ := (C m hm).2 (by omega)
    by_cases z : i = 0
    · rw [if_pos z] at H ⊢
      exact H (st + 1) f _ _ _ _ _ _ _ _ _ (by omega) (by omega) (xr_ctl hr' (c2.trans c1.symm))
    · rw [if_neg z] at H ⊢
      exact H (st + 1) f _ _ _ _ _ _ _ _ _ (by omega) (by omega) (xr_ctl hr' ((c3 k6).trans c1.symm))
  · -- behind a branch
    intro b m s fr' F R w W i hm k6 H st f ca co cll clv fr ret fv wc wt h1 h2 hr
    obtain ⟨f, rfl⟩ : ∃ f', f = f' + 1 := ⟨f - 1, by omega⟩
    obtain ⟨s1, s2, s3, s4⟩ := re_kid1 A XT hm (by omega)
    obtain ⟨w1, w2, w3, w4⟩ := re_kid2 A XT hm k6
    obtain ⟨c1, c2, c3⟩ := (C m hm).2 (by omega)
    have main : ∀ q pq, q < n → a_parents q = nI m → a_places q = nI pq → pq = 1 ∨ pq = 2 → N q = N m → xr_P (tr_lc K) N N q (s, fr', F, R, w, W) ca co cll clv fr ret fv wc wt → wX_interpret_4 post (f + 1) (xe_c (.inr q)) (nI st) f_cellLimit (nI cl) (nI cm) f_nodes f_holes f_lambdas f_stageReached f_grown f_codeLength (nI E) (nI 0) ca co fr wc a_kinds a_operands a_parents a_places a_children a_levels a_nests a_scopes a_nodeLambdas a_lambdaNodes a_liveNodes a_nodeFlows a_paramFlows a_codeOps a_codeNodes a_codeTargets a_branchSpots a_entries ret fv cll clv wt a_records (re_cs E old s.2.2.2.2) := fun q pq hq e1 e2 e3 e4 hr => by
      have v : vp_in (nI q) 48 := vp_in_nI (by omega) (by omega)
      have hc := nI_clamp (n := q) (by omega)
      refine br_f (lim (by omega)) (br_t rfl (br_t (ng hq) ?_))
      rw [bk hq]
      refine ⟨v, ?_⟩
      rw [hc]
      refine nm_r e1 (br_t (nI_pos' (by omega)) ⟨vp_in_nI (by omega) (by omega), ?_⟩)
      rw [nI_clamp (n := m) (by omega), e2]
      refine nm_r (XT.1 m hm) ?_
      rw [k6]
      refine br_f (by decide) (br_f (by decide) (br_f (by decide) (br_f (by decide) (br_f (by decide) (br_f (by decide) (br_t rfl ⟨v, br_f (nI_ne0 (by omega) (by omega)) (nm_r (nI_1 st) ?_)⟩))))))
      exact H (st + 1) f _ _ _ _ _ _ _ _ _ (by omega) (by omega) (xr_ctl hr e4.symm)
    by_cases z : i = 0
    · rw [if_pos z] at hr ⊢
      exact main _ 1 s1 s3 s4 (Or.inl rfl) c2 hr
    · rw [if_neg z] at hr ⊢
      exact main _ 2 w1 w3 w4 (Or.inr rfl) (c3 k6) hr
  · -- ADD, SUB
    intro b m s fr' F R w W i j hm k hw H st f ca co cll clv fr ret fv wc wt h1 h2 hr
    obtain ⟨f, rfl⟩ : ∃ f', f = f' + 1 := ⟨f - 1, by omega⟩
    obtain ⟨s1, s2, s3, s4⟩ := re_kid1 A XT hm (by omega)
    obtain ⟨c1, c2, c3⟩ := (C m hm).2 (by omega)
    have v : vp_in (nI (tr_e P n (m + 1))) 48 := vp_in_nI (by omega) (by omega)
    have hc := nI_clamp (n := tr_e P n (m + 1)) (by omega)
    refine br_f (lim (by omega)) (br_t rfl (br_t (ng s1) ?_))
    rw [bk s1]
    refine ⟨v, ?_⟩
    rw [hc]
    refine nm_r s3 (br_t (nI_pos' (by omega)) ⟨vp_in_nI (by omega) (by omega), ?_⟩)
    rw [nI_clamp (n := m) (by omega)]
    refine nm_r (XT.1 m hm) ?_
    have fin2 : ∀ {post' : Int32 → SX → Prop}, (∀ wc' wt', xr_P (tr_lc K) N N m (s, fr', F, R, w + 1, am_pw W w (.inl (if K m = 4 then i + j else i - j))) ca co cll clv fr ret fv wc' wt' → post' (nI m ^^^ (-1)) (f_cellLimit, (nI cl), (nI cm), f_nodes, f_holes, f_lambdas, f_stageReached, f_grown, f_codeLength, (nI E), (nI 0), ca, co, fr, wc', a_kinds, a_operands, a_parents, a_places, a_children, a_levels, a_nests, a_scopes, a_nodeLambdas, a_lambdaNodes, a_liveNodes, a_nodeFlows, a_paramFlows, a_codeOps, a_codeNodes, a_codeTargets, a_branchSpots, a_entries, ret, fv, cll, clv, wt', a_records, (re_cs E old s.2.2.2.2))) → wX_handOn_112 post' (nI (tr_e P n (m + 1))) (nI m) f_cellLimit (nI cl) (nI cm) f_nodes f_holes f_lambdas f_stageReached f_grown f_codeLength (nI E) (nI 0) ca co fr wc a_kinds a_operands a_parents a_places a_children a_levels a_nests a_scopes a_nodeLambdas a_lambdaNodes a_liveNodes a_nodeFlows a_paramFlows a_codeOps a_codeNodes a_codeTargets a_branchSpots a_entries ret fv cll clv wt a_records (re_cs E old s.2.2.2.2) := fun hp => by
      refine ⟨v, ?_⟩
      rw [hc, s4]
      refine br_f (by decide) (xo_sum (nn := N) A XT hm k i j hw hr (fun wc' wt' hr' => ?_))
      exact hp wc' wt' (xr_ctl hr' c2.symm)
    have nx := fun wc' wt' hr' => H (st + 1) f ca co cll clv fr ret fv wc' wt' (by omega) (by omega) hr'
    rcases k with q | q
    · rw [q]
      exact br_f (by decide) (br_f (by decide) (br_f (by decide) (br_f (by decide) (br_t rfl (fin2 (fun wc' wt' hr' => nm_r (nI_1 st) (nx wc' wt' hr')))))))
    · rw [q]
      exact br_f (by decide) (br_f (by decide) (br_f (by decide) (br_f (by decide) (br_f (by decide) (br_t rfl (fin2 (fun wc' wt' hr' => nm_r (nI_1 st) (nx wc' wt' hr'))))))))
  · -- ADD, SUB on a closure
    intro b m s fr' F R w W v' x hm k hw Wf ov ox hs J st f ca co cll clv fr ret fv wc wt h1 h2 hr
    obtain ⟨f, rfl⟩ : ∃ f', f = f' + 1 := ⟨f - 1, by omega⟩
    obtain ⟨s1, s2, s3, s4⟩ := re_kid1 A XT hm (by omega)
    have v : vp_in (nI (tr_e P n (m + 1))) 48 := vp_in_nI (by omega) (by omega)
    have hc := nI_clamp (n := tr_e P n (m + 1)) (by omega)
    refine br_f (lim (by omega)) (br_t rfl (br_t (ng s1) ?_))
    rw [bk s1]
    refine ⟨v, ?_⟩
    rw [hc]
    refine nm_r s3 (br_t (nI_pos' (by omega)) ⟨vp_in_nI (by omega) (by omega), ?_⟩)
    rw [nI_clamp (n := m) (by omega)]
    refine nm_r (XT.1 m hm) ?_
    have fin2 : ∀ {post' : Int32 → SX → Prop}, (∀ wc', post' (nI m ^^^ (-1)) (f_cellLimit, (nI cl), (nI cm), f_nodes, f_holes, f_lambdas, f_stageReached, f_grown, f_codeLength, (nI E), (nI 3), (nI s.1), (nI s.2.1), fr, wc', a_kinds, a_operands, a_parents, a_places, a_children, a_levels, a_nests, a_scopes, a_nodeLambdas, a_lambdaNodes, a_liveNodes, a_nodeFlows, a_paramFlows, a_codeOps, a_codeNodes, a_codeTargets, a_branchSpots, a_entries, ret, fv, cll, clv, wt, (ru_r E a_records (nI 3) (nI 0) (nI m) (nI s.1) (nI s.2.1)), (re_cs E old s.2.2.2.2))) → wX_handOn_112 post' (nI (tr_e P n (m + 1))) (nI m) f_cellLimit (nI cl) (nI cm) f_nodes f_holes f_lambdas f_stageReached f_grown f_codeLength (nI E) (nI 0) ca co fr wc a_kinds a_operands a_parents a_places a_children a_levels a_nests a_scopes a_nodeLambdas a_lambdaNodes a_liveNodes a_nodeFlows a_paramFlows a_codeOps a_codeNodes a_codeTargets a_branchSpots a_entries ret fv cll clv wt a_records (re_cs E old s.2.2.2.2) := fun hp => by
      refine ⟨v, ?_⟩
      rw [hc, s4]
      exact br_f (by decide) (xo_sumS hE (c64 Wf) hw ov ox hs hr (fun wc' => hp wc'))
    have nx := fun wc' => fin (f := f) (st := st + 1) (r := nI m ^^^ (-1)) (x := (3, m)) (s := s) (Or.inl rfl) (by omega) (by omega) (J cll clv fr ret fv wc' wt)
    rcases k with q | q
    · rw [q]
      exact br_f (by decide) (br_f (by decide) (br_f (by decide) (br_f (by decide) (br_t rfl (fin2 (fun wc' => nm_r (nI_1 st) (nx wc')))))))
    · rw [q]
      exact br_f (by decide) (br_f (by decide) (br_f (by decide) (br_f (by decide) (br_f (by decide) (br_t rfl (fin2 (fun wc' => nm_r (nI_1 st) (nx wc'))))))))
  · -- APP of a number
    intro b m s fr' F R w W i x hm k hw J st f ca co cll clv fr ret fv wc wt h1 h2 hr
    obtain ⟨f, rfl⟩ : ∃ f', f = f' + 1 := ⟨f - 1, by omega⟩
    obtain ⟨s1, s2, s3, s4⟩ := re_kid1 A XT hm (by omega)
    have v : vp_in (nI (tr_e P n (m + 1))) 48 := vp_in_nI (by omega) (by omega)
    have hc := nI_clamp (n := tr_e P n (m + 1)) (by omega)
    refine br_f (lim (by omega)) (br_t rfl (br_t (ng s1) ?_))
    rw [bk s1]
    refine ⟨v, ?_⟩
    rw [hc]
    refine nm_r s3 (br_t (nI_pos' (by omega)) ⟨vp_in_nI (by omega) (by omega), ?_⟩)
    rw [nI_clamp (n := m) (by omega), s4]
    refine nm_r (XT.1 m hm) ?_
    rw [k]
    refine br_f (by decide) (br_f (by decide) (br_f (by decide) (br_t rfl ⟨v, br_f (by decide) ?_⟩)))
    unfold wpX_beginBody
    refine xo_appS hE i x hw hr (fun wc' => br_f (by decide) (nm_r (nI_1 st) ?_))
    exact fin (x := (3, m)) (Or.inl rfl) (by omega) (by omega) (J _ _ _ _ _ _ _)
  · -- APP at the limit
    intro b m s fr' F R w W kk x hm k hw Wf hk hcl' J st f ca co cll clv fr ret fv wc wt h1 h2 hr
    obtain ⟨f, rfl⟩ : ∃ f', f = f' + 1 := ⟨f - 1, by omega⟩
    obtain ⟨s1, s2, s3, s4⟩ := re_kid1 A XT hm (by omega)
    have v : vp_in (nI (tr_e P n (m + 1))) 48 := vp_in_nI (by omega) (by omega)
    have hc := nI_clamp (n := tr_e P n (m + 1)) (by omega)
    refine br_f (lim (by omega)) (br_t rfl (br_t (ng s1) ?_))
    rw [bk s1]
    refine ⟨v, ?_⟩
    rw [hc]
    refine nm_r s3 (br_t (nI_pos' (by omega)) ⟨vp_in_nI (by omega) (by omega), ?_⟩)
    rw [nI_clamp (n := m) (by omega), s4]
    refine nm_r (XT.1 m hm) ?_
    rw [k]
    refine br_f (by decide) (br_f (by decide) (br_f (by decide) (br_t rfl ⟨v, br_f (by decide) ?_⟩)))
    unfold wpX_beginBody
    refine xo_appC hE (c64 Wf) hk hcl' x hw hr (fun wc' => br_f (by decide) (nm_r (nI_1 st) ?_))
    exact fin (x := (4, m)) (Or.inr (Or.inl rfl)) (by omega) (by omega) (J _ _ _ _ _ _ _)
  · -- APP
    intro b m s fr' F R w W kk x hm k hw hf Wf hk ox hcl' H st f ca co cll clv fr ret fv wc wt h1 h2 hr
    obtain ⟨f, rfl⟩ : ∃ f', f = f' + 1 := ⟨f - 1, by omega⟩
    obtain ⟨s1, s2, s3, s4⟩ := re_kid1 A XT hm (by omega)
    obtain ⟨c1, c2, c3⟩ := (C m hm).2 (by omega)
    have v : vp_in (nI (tr_e P n (m + 1))) 48 := vp_in_nI (by omega) (by omega)
    have hc := nI_clamp (n := tr_e P n (m + 1)) (by omega)
    obtain ⟨p1, p2, p3⟩ := Wf.2.2 kk hk
    obtain ⟨r1, r2, r3, r4⟩ := re_kid0 A XT p1 (by omega)
    have r2' : a_children (s.2.2.1 kk * 3) = nI (s.2.2.1 kk + 1) := r2
    have lp := tr_lc_lt p1 p2
    have hL : L ≤ 16 := A.2.2.2.2.2.1
    have hLn := A.2.2.2.2.1
    have lnn := XT.2.2.2.2.2.2.2.2 _ p1 p2
    refine br_f (lim (by omega)) (br_t rfl (br_t (ng s1) ?_))
    rw [bk s1]
    refine ⟨v, ?_⟩
    rw [hc]
    refine nm_r s3 (br_t (nI_pos' (by omega)) ⟨vp_in_nI (by omega) (by omega), ?_⟩)
    rw [nI_clamp (n := m) (by omega), s4]
    refine nm_r (XT.1 m hm) ?_
    rw [k]
    refine br_f (by decide) (br_f (by decide) (br_f (by decide) (br_t rfl ⟨v, br_f (by decide) ?_⟩)))
    unfold wpX_beginBody
    refine xo_app (nn := N) (z := m) (s := s) A XT hE hcl h64 hm hf Wf hk hcl' x hw c2.symm hr (fun ca' fr2 wc' ret' fv' hr' => br_t (nI_pos' (by omega)) (xx_bodyOf (by omega) (by omega) lnn ?_))
    rw [r2']
    refine nm_r (nI_1 st) ?_
    exact H (st + 1) f _ _ _ _ _ _ _ _ _ (by omega) (by omega) (hr' _ ((C _ p1).1 p2))
  · -- return
    intro b m s fr' F R w W p g hm hp kp hf H st f ca co cll clv fr ret fv wc wt h1 h2 hr
    obtain ⟨f, rfl⟩ : ∃ f', f = f' + 1 := ⟨f - 1, by omega⟩
    obtain ⟨r1, r2, r3, r4⟩ := re_kid0 A XT hp (by omega)
    have v : vp_in (nI (p + 1)) 48 := vp_in_nI (by omega) (by omega)
    have hc := nI_clamp (n := p + 1) (by omega)
    refine br_f (lim (by omega)) (br_t rfl (br_t (ng r1) ?_))
    rw [bk r1]
    refine ⟨v, ?_⟩
    rw [hc]
    refine nm_r r3 (br_t (nI_pos' (by omega)) ⟨vp_in_nI (by omega) (by omega), ?_⟩)
    rw [nI_clamp (n := p) (by omega)]
    refine nm_r (XT.1 p hp) ?_
    rw [kp]
    refine br_f (by decide) (br_f (by decide) (br_t rfl ?_))
    refine xo_ret (nn := N) (z := m) hf hr (fun fr2 hr' => nm_r (nI_1 st) ?_)
    exact H (st + 1) f _ _ _ _ _ _ _ _ _ (by omega) (by omega) hr'
end
