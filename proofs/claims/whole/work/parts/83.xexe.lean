/-! ===== the class: the compiled engine keeps the machine's rules ===== -/
section
variable {f_cellLimit f_callLimit f_closureLimit f_nodes f_holes f_lambdas f_stageReached f_grown f_codeLength f_runningEngine f_ending f_callCount f_closureCount f_frame f_waitingCount : Int32} {a_kinds a_operands a_parents a_places a_children a_levels a_nests a_scopes a_nodeLambdas a_lambdaNodes a_liveNodes a_nodeFlows a_paramFlows a_codeOps a_codeNodes a_codeTargets a_branchSpots a_entries a_frameReturns a_closureLambdas a_records a_calledSets : Nat → Int32} {a_closureValues a_frameValues a_waiting : Nat → Int64}
variable {cs n L cl cm cn E : Nat} {K P N Lv S O B oc nd tg en : Nat → Nat} {old : Nat → Int32}
theorem xc_R {post : SX → Prop} (A : re_A cs n 0 L K P N Lv S O B) (XT : re_X n K P N Lv S O B a_kinds a_operands a_parents a_places a_children a_levels a_nests a_scopes a_nodeLambdas a_lambdaNodes) (hE : E < 2) (hcl : cl ≤ 48) (h64 : cm ≤ 64) (hcn : cn ≤ 113) (hc9 : ∀ c, c < cn → cp_c K N oc nd tg n cn c) (hen : ∀ l, l < L → a_entries l = nI (en l)) :
    cm_R K (tr_e P n) N Lv (re_ix N O) en a_operands (ru_m K) (tr_lc K) oc nd tg cl cm n cn
      (fun b c a => ∀ st f ca co cll clv fr ret fv wc wt, st + b < 1000000 → b < f → xr_P (tr_lc K) N (fun c => N (nd c)) c a ca co cll clv fr ret fv wc wt → wX_execute_4 post f (nI c) (nI st) f_cellLimit (nI cl) (nI cm) f_nodes f_holes f_lambdas f_stageReached f_grown f_codeLength (nI E) (nI 0) ca co fr wc a_kinds a_operands a_parents a_places a_children a_levels a_nests a_scopes a_nodeLambdas a_lambdaNodes a_liveNodes a_nodeFlows a_paramFlows (rn_F oc) (rn_F nd) (rn_F tg) a_branchSpots a_entries ret fv cll clv wt a_records (re_cs E old a.1.2.2.2.2))
      (fun x s => ∀ cll clv fr ret fv wc wt, post (f_cellLimit, (nI cl), (nI cm), f_nodes, f_holes, f_lambdas, f_stageReached, f_grown, f_codeLength, (nI E), (nI x.1), (nI s.1), (nI s.2.1), fr, wc, a_kinds, a_operands, a_parents, a_places, a_children, a_levels, a_nests, a_scopes, a_nodeLambdas, a_lambdaNodes, a_liveNodes, a_nodeFlows, a_paramFlows, (rn_F oc), (rn_F nd), (rn_F tg), a_branchSpots, a_entries, ret, fv, cll, clv, wt, (ru_r E a_records (nI x.1) (nI 0) (nI x.2) (nI s.1) (nI s.2.1)), (re_cs E old s.2.2.2.2))) := by
  have hn : n ≤ 48 := by have := A.2.2.1; have := A.2.2.2.1; omega
  have hL : L ≤ 16 := A.2.2.2.2.2.1
  have hLn := A.2.2.2.2.1
  have lim : ∀ {s : Nat}, s < 1000000 → ¬ (1000000 : Int32) ≤ nI s := fun h => nI_ge (b := 1000000) h (by decide)
  have c64 : ∀ {s : ev_S}, ev_W K N n cl cm s → s.2.1 ≤ 64 := fun Wf => by have := Wf.2.1; omega
  have fin : ∀ {f st : Nat} {r : Int32} {x : Nat × Nat} {s : ev_S} {cll clv fr ret fv wc wt}, (x.1 = 3 ∨ x.1 = 4 ∨ x.1 = 5) → 0 < f → st < 1000000 → post (f_cellLimit, (nI cl), (nI cm), f_nodes, f_holes, f_lambdas, f_stageReached, f_grown, f_codeLength, (nI E), (nI x.1), (nI s.1), (nI s.2.1), fr, wc, a_kinds, a_operands, a_parents, a_places, a_children, a_levels, a_nests, a_scopes, a_nodeLambdas, a_lambdaNodes, a_liveNodes, a_nodeFlows, a_paramFlows, (rn_F oc), (rn_F nd), (rn_F tg), a_branchSpots, a_entries, ret, fv, cll, clv, wt, (ru_r E a_records (nI x.1) (nI 0) (nI x.2) (nI s.1) (nI s.2.1)), (re_cs E old s.2.2.2.2)) → wX_execute_4 post f r (nI st) f_cellLimit (nI cl) (nI cm) f_nodes f_holes f_lambdas f_stageReached f_grown f_codeLength (nI E) (nI x.1) (nI s.1) (nI s.2.1) fr wc a_kinds a_operands a_parents a_places a_children a_levels a_nests a_scopes a_nodeLambdas a_lambdaNodes a_liveNodes a_nodeFlows a_paramFlows (rn_F oc) (rn_F nd) (rn_F tg) a_branchSpots a_entries ret fv cll clv wt (ru_r E a_records (nI x.1) (nI 0) (nI x.2) (nI s.1) (nI s.2.1)) (re_cs E old s.2.2.2.2) := by
    intro f st r x s cll clv fr ret fv wc wt hx hf hs hp
    obtain ⟨f, rfl⟩ : ∃ f', f = f' + 1 := ⟨f - 1, by omega⟩
    have ne : ¬ nI x.1 = 0 := nI_ne0 (by omega) (by omega)
    exact br_f (lim hs) (br_f ne hp)
  refine ⟨?_, ?_, ?_, ?_, ?_, ?_, ?_, ?_, ?_, ?_, ?_, ?_, ?_, ?_, ?_⟩
  · intro b d c a H st f ca co cll clv fr ret fv wc wt h1 h2 hr
    exact H st f ca co cll clv fr ret fv wc wt (by omega) (by omega) hr
  · -- VAR
    intro b c m s fr' F R w W hc o1 o2 hm k hf hw H st f ca co cll clv fr ret fv wc wt h1 h2 hr
    obtain ⟨f, rfl⟩ : ∃ f', f = f' + 1 := ⟨f - 1, by omega⟩
    have v : vp_in (nI c) 113 := vp_in_nI (by omega) (by omega)
    have nx := (hc9 c hc).2.2.1 (by omega)
    refine br_f (lim (by omega)) (br_t rfl ⟨v, ?_⟩)
    rw [rn_at nd (by omega), rn_at oc (by omega), o1, o2]
    refine nm_e ⟨v, nm_e (br_f (by decide) (br_f (by decide) (br_f (by decide) (br_t rfl ?_))))⟩
    refine xo_var (nn := fun c => N (nd c)) A XT hm k hf hw (by show N (nd c) = _; rw [o2]) hr (fun wc' wt' hr' => nm_r (nI_1 st) ?_)
    rw [nI_1 c]
    exact H (st + 1) f _ _ _ _ _ _ _ _ _ (by omega) (by omega) (xr_ctl hr' nx.2)
  · -- NUM
    intro b c m s fr' F R w W hc o1 o2 hm k hf hw H st f ca co cll clv fr ret fv wc wt h1 h2 hr
    obtain ⟨f, rfl⟩ : ∃ f', f = f' + 1 := ⟨f - 1, by omega⟩
    have v : vp_in (nI c) 113 := vp_in_nI (by omega) (by omega)
    have nx := (hc9 c hc).2.2.1 (by omega)
    refine br_f (lim (by omega)) (br_t rfl ⟨v, ?_⟩)
    rw [rn_at nd (by omega), rn_at oc (by omega), o1, o2]
    refine nm_e ⟨v, nm_e (br_f (by decide) (br_f (by decide) (br_t rfl ⟨vp_in_nI (by omega) (by omega), ?_⟩)))⟩
    rw [nI_clamp (n := m) (by omega)]
    refine xo_num (nn := fun c => N (nd c)) (a_operands m) hw hr (fun wc' wt' hr' => nm_r (nI_1 st) ?_)
    rw [nI_1 c]
    exact H (st + 1) f _ _ _ _ _ _ _ _ _ (by omega) (by omega) (xr_ctl hr' nx.2)
  · -- LAM at the limit
    intro b c m s fr' F R w W hc o1 o2 hm k hf hw hcm J st f ca co cll clv fr ret fv wc wt h1 h2 hr
    obtain ⟨f, rfl⟩ : ∃ f', f = f' + 1 := ⟨f - 1, by omega⟩
    have v : vp_in (nI c) 113 := vp_in_nI (by omega) (by omega)
    refine br_f (lim (by omega)) (br_t rfl ⟨v, ?_⟩)
    rw [rn_at nd (by omega), rn_at oc (by omega), o1, o2]
    refine nm_e ⟨v, nm_e (br_f (by decide) (br_f (by decide) (br_f (by decide) (br_f (by decide) (br_t rfl ?_)))))⟩
    refine xo_lamF (m := m) hE h64 hcm hr (nm_r (nI_1 st) ?_)
    exact fin (x := (5, m)) (Or.inr (Or.inr rfl)) (by omega) (by omega) (J _ _ _ _ _ _ _)
  · -- LAM
    intro b c m s fr' F R w W hc o1 o2 hm k hf hw Wf hcm H st f ca co cll clv fr ret fv wc wt h1 h2 hr
    obtain ⟨f, rfl⟩ : ∃ f', f = f' + 1 := ⟨f - 1, by omega⟩
    have v : vp_in (nI c) 113 := vp_in_nI (by omega) (by omega)
    have nx := (hc9 c hc).2.2.1 (by omega)
    refine br_f (lim (by omega)) (br_t rfl ⟨v, ?_⟩)
    rw [rn_at nd (by omega), rn_at oc (by omega), o1, o2]
    refine nm_e ⟨v, nm_e (br_f (by decide) (br_f (by decide) (br_f (by decide) (br_f (by decide) (br_t rfl ?_)))))⟩
    refine xo_lam (nn := fun c => N (nd c)) A XT hm k hf hw h64 Wf hcm (by show N (nd c) = _; rw [o2]) hr (fun co' cll' clv' wc' wt' hr' => nm_r (nI_1 st) ?_)
    rw [nI_1 c]
    exact H (st + 1) f _ _ _ _ _ _ _ _ _ (by omega) (by omega) (xr_ctl hr' nx.2)
  · -- BRANCH on a closure
    intro b c m s fr' F R w W k hc o1 o2 hm k6 hw Wf hk J st f ca co cll clv fr ret fv wc wt h1 h2 hr
    obtain ⟨f, rfl⟩ : ∃ f', f = f' + 1 := ⟨f - 1, by omega⟩
    have v : vp_in (nI c) 113 := vp_in_nI (by omega) (by omega)
    have := c64 Wf
    refine br_f (lim (by omega)) (br_t rfl ⟨v, ?_⟩)
    rw [rn_at nd (by omega), rn_at oc (by omega), rn_at tg (by omega), o1, o2]
    refine nm_e ⟨v, nm_e (br_f (by decide) (br_f (by decide) (br_f (by decide) (br_f (by decide) (br_f (by decide) (br_f (by decide) (br_t rfl ⟨v, ?_⟩)))))))⟩
    rw [nI_1 c]
    refine xo_ifS hE hw (by omega) hr (fun r wc' => nm_r (nI_1 st) ?_)
    exact fin (x := (3, m)) (Or.inl rfl) (by omega) (by omega) (J _ _ _ _ _ _ _)
  · -- BRANCH on a number
    intro b c m s fr' F R w W i hc o1 o2 hm k6 hw H st f ca co cll clv fr ret fv wc wt h1 h2 hr
    obtain ⟨f, rfl⟩ : ∃ f', f = f' + 1 := ⟨f - 1, by omega⟩
    have v : vp_in (nI c) 113 := vp_in_nI (by omega) (by omega)
    have nx := (hc9 c hc).2.2.1 (by omega)
    have nt := (hc9 c hc).2.2.2.1 (Or.inl o1)
    refine br_f (lim (by omega)) (br_t rfl ⟨v, ?_⟩)
    rw [rn_at nd (by omega), rn_at oc (by omega), rn_at tg (by omega), o1, o2]
    refine nm_e ⟨v, nm_e (br_f (by decide) (br_f (by decide) (br_f (by decide) (br_f (by decide) (br_f (by decide) (br_f (by decide) (br_t rfl ⟨v, ?_⟩)))))))⟩
    rw [nI_1 c]
    refine xo_if (nn := fun c => N (nd c)) i hw hr (fun wc' hr' => nm_r (nI_1 st) ?_)
    by_cases z : i = 0
    · rw [if_pos z] at H ⊢
      exact H (st + 1) f _ _ _ _ _ _ _ _ _ (by omega) (by omega) (xr_ctl hr' nx.2)
    · rw [if_neg z] at H ⊢
      exact H (st + 1) f _ _ _ _ _ _ _ _ _ (by omega) (by omega) (xr_ctl hr' nt.2)
  · -- JUMP
    intro b c a hc o1 H st f ca co cll clv fr ret fv wc wt h1 h2 hr
    obtain ⟨f, rfl⟩ : ∃ f', f = f' + 1 := ⟨f - 1, by omega⟩
    have v : vp_in (nI c) 113 := vp_in_nI (by omega) (by omega)
    have nt := (hc9 c hc).2.2.2.1 (Or.inr o1)
    refine br_f (lim (by omega)) (br_t rfl ⟨v, ?_⟩)
    rw [rn_at nd (by omega), rn_at oc (by omega), rn_at tg (by omega), o1]
    refine nm_e ⟨v, nm_e (br_f (by decide) (br_f (by decide) (br_f (by decide) (br_f (by decide) (br_f (by decide) (br_f (by decide) (br_f (by decide) (br_t rfl ⟨v, nm_r (nI_1 st) ?_⟩))))))))⟩
    exact H (st + 1) f _ _ _ _ _ _ _ _ _ (by omega) (by omega) (xr_ctl hr nt.2)
  · -- COMBINE
    intro b c m s fr' F R w W i j hc o1 o2 hm k hw H st f ca co cll clv fr ret fv wc wt h1 h2 hr
    obtain ⟨f, rfl⟩ : ∃ f', f = f' + 1 := ⟨f - 1, by omega⟩
    have v : vp_in (nI c) 113 := vp_in_nI (by omega) (by omega)
    have nx := (hc9 c hc).2.2.1 (by omega)
    refine br_f (lim (by omega)) (br_t rfl ⟨v, ?_⟩)
    rw [rn_at nd (by omega), rn_at oc (by omega), o1, o2]
    refine nm_e ⟨v, nm_e (br_f (by decide) (br_f (by decide) (br_f (by decide) (br_f (by decide) (br_f (by decide) (br_t rfl ?_))))))⟩
    refine xo_sum (nn := fun c => N (nd c)) A XT hm k i j hw hr (fun wc' wt' hr' => nm_r (nI_1 st) ?_)
    rw [nI_1 c]
    exact H (st + 1) f _ _ _ _ _ _ _ _ _ (by omega) (by omega) (xr_ctl hr' nx.2)
  · -- COMBINE on a closure
    intro b c m s fr' F R w W v' x hc o1 o2 hm k hw Wf ov ox hs J st f ca co cll clv fr ret fv wc wt h1 h2 hr
    obtain ⟨f, rfl⟩ : ∃ f', f = f' + 1 := ⟨f - 1, by omega⟩
    have v : vp_in (nI c) 113 := vp_in_nI (by omega) (by omega)
    refine br_f (lim (by omega)) (br_t rfl ⟨v, ?_⟩)
    rw [rn_at nd (by omega), rn_at oc (by omega), o1, o2]
    refine nm_e ⟨v, nm_e (br_f (by decide) (br_f (by decide) (br_f (by decide) (br_f (by decide) (br_f (by decide) (br_t rfl ?_))))))⟩
    refine xo_sumS hE (c64 Wf) hw ov ox hs hr (fun wc' => nm_r (nI_1 st) ?_)
    exact fin (x := (3, m)) (Or.inl rfl) (by omega) (by omega) (J _ _ _ _ _ _ _)
  · -- CHOICE on a number
    intro b c m s fr' F R w W i x hc o1 o2 hm k hw J st f ca co cll clv fr ret fv wc wt h1 h2 hr
    obtain ⟨f, rfl⟩ : ∃ f', f = f' + 1 := ⟨f - 1, by omega⟩
    have v : vp_in (nI c) 113 := vp_in_nI (by omega) (by omega)
    refine br_f (lim (by omega)) (br_t rfl ⟨v, ?_⟩)
    rw [rn_at nd (by omega), rn_at oc (by omega), o1, o2]
    refine nm_e ⟨v, nm_e (br_f (by decide) (br_f (by decide) (br_f (by decide) (br_f (by decide) (br_f (by decide) (br_f (by decide) (br_f (by decide) (br_f (by decide) (br_f (by decide) (br_t rfl ?_))))))))))⟩
    unfold wpX_performChoice
    refine xo_appS hE i x hw hr (fun wc' => br_f (by decide) (nm_r (nI_1 st) ?_))
    exact fin (x := (3, m)) (Or.inl rfl) (by omega) (by omega) (J _ _ _ _ _ _ _)
  · -- STICK
    intro b c m s a hc o1 o2 hm ea J st f ca co cll clv fr ret fv wc wt h1 h2 hr
    obtain ⟨f, rfl⟩ : ∃ f', f = f' + 1 := ⟨f - 1, by omega⟩
    have v : vp_in (nI c) 113 := vp_in_nI (by omega) (by omega)
    have e1 : ca = nI s.1 := by rw [← ea]; exact hr.1.1
    have e2 : co = nI s.2.1 := by rw [← ea]; exact hr.1.2.1
    rw [e1, e2, ea]
    refine br_f (lim (by omega)) (br_t rfl ⟨v, ?_⟩)
    rw [rn_at nd (by omega), rn_at oc (by omega), o1, o2]
    refine nm_e ⟨v, nm_e (br_f (by decide) (br_f (by decide) (br_f (by decide) (br_f (by decide) (br_f (by decide) (br_f (by decide) (br_f (by decide) (br_f (by decide) (br_f (by decide) (br_f (by decide) (br_t rfl ?_)))))))))))⟩
    refine xo_endRun (p0 := nI 3) (p1 := nI 0) (p2 := nI m) hE (nm_r (nI_1 st) ?_)
    exact fin (x := (3, m)) (Or.inl rfl) (by omega) (by omega) (J _ _ _ _ _ _ _)
  · -- a call at the limit
    intro b c m s fr' F R w W kk x hc o1 o2 hm k hw Wf hk hcl' J st f ca co cll clv fr ret fv wc wt h1 h2 hr
    obtain ⟨f, rfl⟩ : ∃ f', f = f' + 1 := ⟨f - 1, by omega⟩
    have v : vp_in (nI c) 113 := vp_in_nI (by omega) (by omega)
    refine br_f (lim (by omega)) (br_t rfl ⟨v, ?_⟩)
    rcases o1 with o1 | o1
    · rw [rn_at nd (by omega), rn_at oc (by omega), o1, o2]
      refine nm_e ⟨v, nm_e (br_f (by decide) (br_f (by decide) (br_f (by decide) (br_f (by decide) (br_f (by decide) (br_f (by decide) (br_f (by decide) (br_f (by decide) (br_t rfl ?_)))))))))⟩
      refine xo_appC hE (c64 Wf) hk hcl' x hw hr (fun wc' => ⟨v, nm_r (nI_1 st) ?_⟩)
      exact fin (x := (4, m)) (Or.inr (Or.inl rfl)) (by omega) (by omega) (J _ _ _ _ _ _ _)
    · rw [rn_at nd (by omega), rn_at oc (by omega), o1, o2]
      refine nm_e ⟨v, nm_e (br_f (by decide) (br_f (by decide) (br_f (by decide) (br_f (by decide) (br_f (by decide) (br_f (by decide) (br_f (by decide) (br_f (by decide) (br_f (by decide) (br_t rfl ?_))))))))))⟩
      unfold wpX_performChoice
      refine xo_appC hE (c64 Wf) hk hcl' x hw hr (fun wc' => br_f (by decide) (nm_r (nI_1 st) ?_))
      exact fin (x := (4, m)) (Or.inr (Or.inl rfl)) (by omega) (by omega) (J _ _ _ _ _ _ _)
  · -- a call
    intro b c m s fr' F R w W kk x hc o1 o2 hm k hw hf Wf hk ox hcl' hNe H st f ca co cll clv fr ret fv wc wt h1 h2 hr
    obtain ⟨f, rfl⟩ : ∃ f', f = f' + 1 := ⟨f - 1, by omega⟩
    have v : vp_in (nI c) 113 := vp_in_nI (by omega) (by omega)
    obtain ⟨p1, p2, p3⟩ := Wf.2.2 kk hk
    have lp : tr_lc K (s.2.2.1 kk) < L := by rw [hLn]; exact tr_lc_lt p1 p2
    have ne9 : oc c ≠ 9 := by
      rcases o1 with o1 | o1
      · have := o1.1; omega
      · omega
    have nx := (hc9 c hc).2.2.1 ne9
    refine br_f (lim (by omega)) (br_t rfl ⟨v, ?_⟩)
    rcases o1 with ⟨o1, o3⟩ | o1
    · rw [rn_at nd (by omega), rn_at oc (by omega), o1, o2]
      refine nm_e ⟨v, nm_e (br_f (by decide) (br_f (by decide) (br_f (by decide) (br_f (by decide) (br_f (by decide) (br_f (by decide) (br_f (by decide) (br_f (by decide) (br_t rfl ?_)))))))))⟩
      rw [nI_1 c]
      refine xo_app (nn := fun c => N (nd c)) (z := c + 1) (s := s) A XT hE hcl h64 hm hf Wf hk hcl' x hw nx.2 hr (fun ca' fr2 wc' ret' fv' hr' => ⟨v, ?_⟩)
      rw [rn_at tg (by omega), o3]
      refine nm_r (nI_1 st) ?_
      exact H (st + 1) f _ _ _ _ _ _ _ _ _ (by omega) (by omega) (hr' _ hNe)
    · rw [rn_at nd (by omega), rn_at oc (by omega), o1, o2]
      refine nm_e ⟨v, nm_e (br_f (by decide) (br_f (by decide) (br_f (by decide) (br_f (by decide) (br_f (by decide) (br_f (by decide) (br_f (by decide) (br_f (by decide) (br_f (by decide) (br_t rfl ?_))))))))))⟩
      unfold wpX_performChoice
      rw [nI_1 c]
      refine xo_app (nn := fun c => N (nd c)) (z := c + 1) (s := s) A XT hE hcl h64 hm hf Wf hk hcl' x hw nx.2 hr (fun ca' fr2 wc' ret' fv' hr' => br_t (nI_pos' (by omega)) ⟨vp_in_nI (by omega) (by omega), ?_⟩)
      rw [nI_clamp (n := tr_lc K (s.2.2.1 kk)) (by omega), hen _ lp]
      refine nm_r (nI_1 st) ?_
      exact H (st + 1) f _ _ _ _ _ _ _ _ _ (by omega) (by omega) (hr' _ hNe)
  · -- RETURN
    intro b c z s fr' F R w W g hc o1 hf H st f ca co cll clv fr ret fv wc wt h1 h2 hr
    obtain ⟨f, rfl⟩ : ∃ f', f = f' + 1 := ⟨f - 1, by omega⟩
    have v : vp_in (nI c) 113 := vp_in_nI (by omega) (by omega)
    have h2 : fr = nI (fr' + 1) := hr.2.1
    refine br_f (lim (by omega)) (br_t rfl ⟨v, ?_⟩)
    rw [rn_at nd (by omega), rn_at oc (by omega), o1]
    refine nm_e ⟨v, nm_e (br_f (by decide) (br_t (by decide) (br_f ?_ ?_)))⟩
    · rw [h2]; exact nI_ne0 (by omega) (by omega)
    · refine xo_ret (nn := fun c => N (nd c)) (z := z) hf hr (fun fr2 hr' => nm_r (nI_1 st) ?_)
      exact H (st + 1) f _ _ _ _ _ _ _ _ _ (by omega) (by omega) hr'
end
