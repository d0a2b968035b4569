/-! ===== the class: run ===== -/
def ru_e (r : ev_R) : Nat := match r with
  | .inl v => ru_a v
  | .inr x => x.1
def ru_v (K : Nat → Nat) (s : ev_S) (r : ev_R) : Int32 := match r with
  | .inl v => ru_b K s v
  | .inr _ => nI 0
def ru_n (r : ev_R) : Int32 := match r with
  | .inl _ => -1
  | .inr x => nI x.2
theorem ru_a0 (v : ev_V) : ¬ nI (ru_a v) = 0 := by
  rcases v with i | k
  · exact (by decide : ¬ nI 1 = 0)
  · exact (by decide : ¬ nI 2 = 0)
/-- the evaluation of the whole term -/
def ru_ev (K P N O : Nat → Nat) (op : Nat → Int32) (n cl cm : Nat) : ev_R × ev_S := ev_al K (tr_e P n) N (re_ix N O) op (ru_m K) cl cm 2400 ev_e0' 0 ev_s0
def re_cz (E i : Nat) (old : Nat → Int32) : Nat → Int32 := fun j => if E * 48 ≤ j ∧ j < E * 48 + i then 0 else old j
theorem re_cz_0 (E : Nat) (old : Nat → Int32) : re_cz E 0 old = old := by
  funext j
  unfold re_cz
  rw [if_neg (by omega)]
theorem re_cz_s (E i : Nat) (old : Nat → Int32) : upd (re_cz E i old) (E * 48 + i) 0 = re_cz E (i + 1) old := by
  funext j
  unfold upd re_cz
  by_cases z : j = E * 48 + i
  · rw [if_pos z, if_pos (by omega)]
  · rw [if_neg z]
    by_cases y : E * 48 ≤ j ∧ j < E * 48 + i
    · rw [if_pos y, if_pos (by omega)]
    · rw [if_neg y, if_neg (by omega)]
theorem re_cz_e (E : Nat) (old : Nat → Int32) : re_cz E 48 old = re_cs E old (fun _ => 0) := rfl
section
variable {f_cellLimit f_callLimit f_closureLimit f_nodes f_holes f_lambdas f_stageReached f_grown f_codeLength f_runningEngine f_ending f_callCount f_closureCount f_frame f_waitingCount : Int32} {a_kinds a_operands a_parents a_places a_children a_levels a_nests a_scopes a_nodeLambdas a_lambdaNodes a_liveNodes a_nodeFlows a_paramFlows a_codeOps a_codeNodes a_codeTargets a_branchSpots a_entries a_frameReturns a_closureLambdas a_records a_calledSets : Nat → Int32} {a_closureValues a_frameValues a_waiting : Nat → Int64}
variable {cs n L cl cm cn E : Nat} {K P N Lv S O B oc nd tg en : Nat → Nat} {old : Nat → Int32}
theorem xx_startRun {post : SX → Prop} (hE : E < 2) (hp : post (f_cellLimit, f_callLimit, f_closureLimit, f_nodes, f_holes, f_lambdas, f_stageReached, f_grown, f_codeLength, (nI E), (nI 0), (nI 0), (nI 0), (nI 0), (nI 0), a_kinds, a_operands, a_parents, a_places, a_children, a_levels, a_nests, a_scopes, a_nodeLambdas, a_lambdaNodes, a_liveNodes, a_nodeFlows, a_paramFlows, a_codeOps, a_codeNodes, a_codeTargets, a_branchSpots, a_entries, a_frameReturns, a_frameValues, a_closureLambdas, a_closureValues, a_waiting, a_records, (re_cs E a_calledSets (fun _ => 0)))) : wpX_startRun post (f_cellLimit, f_callLimit, f_closureLimit, f_nodes, f_holes, f_lambdas, f_stageReached, f_grown, f_codeLength, f_runningEngine, f_ending, f_callCount, f_closureCount, f_frame, f_waitingCount, a_kinds, a_operands, a_parents, a_places, a_children, a_levels, a_nests, a_scopes, a_nodeLambdas, a_lambdaNodes, a_liveNodes, a_nodeFlows, a_paramFlows, a_codeOps, a_codeNodes, a_codeTargets, a_branchSpots, a_entries, a_frameReturns, a_frameValues, a_closureLambdas, a_closureValues, a_waiting, a_records, a_calledSets) (nI E) := by
  have go : ∀ d i f, i + d = 48 → d < f → wX_startRun_32 post (nI E) f_cellLimit f_callLimit f_closureLimit f_nodes f_holes f_lambdas f_stageReached f_grown f_codeLength (nI E) (nI 0) (nI 0) (nI 0) (nI 0) (nI 0) f (nI i) a_kinds a_operands a_parents a_places a_children a_levels a_nests a_scopes a_nodeLambdas a_lambdaNodes a_liveNodes a_nodeFlows a_paramFlows a_codeOps a_codeNodes a_codeTargets a_branchSpots a_entries a_frameReturns a_frameValues a_closureLambdas a_closureValues a_waiting a_records (re_cz E i a_calledSets) := by
    intro d
    induction d with
    | zero =>
      intro i f hi hf
      obtain ⟨f, rfl⟩ : ∃ f', f = f' + 1 := ⟨f - 1, by omega⟩
      have e : i = 48 := by omega
      subst e
      exact br_t (by decide) hp
    | succ d ih =>
      intro i f hi hf
      obtain ⟨f, rfl⟩ : ∃ f', f = f' + 1 := ⟨f - 1, by omega⟩
      refine br_f (nI_ge (b := 48) (by omega) (by decide)) ?_
      rw [ru_48, nI_clamp (n := E * 48 + i) (by omega), re_cz_s]
      exact ⟨vp_in_nI (by omega) (by omega), nm_e (nm_r (nI_1 i) (ih (i + 1) f (by omega) (by omega)))⟩
  have g := go 48 0 49 (by omega) (by omega)
  rw [re_cz_0] at g
  exact ⟨49, g⟩
theorem xr_0 (lc N nn : Nat → Nat) (c : Nat) (F : Nat → Nat → ev_V) (R : Nat → Nat) (W : Nat → ev_V) (h : nn c = 0) (cll : Nat → Int32) (clv : Nat → Int64) (ret : Nat → Int32) (fv wt : Nat → Int64) : xr_P lc N nn c (ev_s0, 0, F, R, 0, W) (nI 0) (nI 0) cll clv (nI 0) ret fv (nI 0) wt :=
  ⟨⟨rfl, rfl, fun k hk => absurd hk (Nat.not_lt_zero k)⟩, rfl, fun j h1 h2 => absurd h1 (by have : j ≤ 0 := h2; omega), fun j hj => absurd hj (Nat.not_lt_zero j), fun i hi => by rw [h] at hi; exact absurd hi (Nat.not_lt_zero i), rfl, fun j hj => absurd hj (Nat.not_lt_zero j)⟩
theorem ru_post (A : re_A cs n 0 L K P N Lv S O B) (op : Nat → Int32) (hcl : cl ≤ 48) : ev_Pre K (tr_e P n) N n cl cm 2400 ev_e0' 0 ev_s0 ∧ ev_Post K N n cl cm ev_s0 (ru_ev K P N O op n cl cm).1 (ru_ev K P N O op n cl cm).2 := by
  obtain ⟨h0, F⟩ := re_full A
  have hn : n ≤ 48 := by have := A.2.2.1; have := A.2.2.2.1; omega
  have N0 : N 0 = 0 := (A.2.2.2.2.2.2.1 0 h0).1 rfl
  have Pr : ev_Pre K (tr_e P n) N n cl cm 2400 ev_e0' 0 ev_s0 := ev_pre0 h0 (tr_root h0) hn hcl N0
  exact ⟨Pr, (ev_ind2 K (tr_e P n) N (re_ix N O) op (ru_m K) cl cm n (re_ev_T A) (fun _ _ _ _ _ _ => True) (fun _ _ _ _ _ _ => trivial) (fun _ _ _ _ _ _ => trivial) (fun _ _ _ _ _ _ _ => trivial) (fun _ _ _ _ _ _ _ => trivial) (fun _ _ _ _ _ _ _ _ _ _ _ => trivial) (fun _ _ _ _ _ _ _ _ _ _ _ => trivial) (fun _ _ _ _ _ _ _ _ _ _ _ _ _ _ _ _ => trivial) (fun _ _ _ _ _ _ _ _ _ _ _ _ _ _ _ _ _ => trivial) (fun _ _ _ _ _ _ _ _ _ _ _ _ _ _ _ _ => trivial) (fun _ _ _ _ _ _ _ _ _ _ _ _ _ _ _ _ _ => trivial) (fun _ _ _ _ _ _ _ _ _ _ _ _ _ _ _ _ _ _ _ _ _ _ => trivial) (fun _ _ _ _ _ _ _ _ _ _ _ _ _ _ _ _ => trivial) (fun _ _ _ _ _ _ _ _ _ _ _ _ _ _ _ _ _ => trivial) 2400 ev_e0' 0 ev_s0 Pr).2⟩
theorem ru_cost (A : re_A cs n 0 L K P N Lv S O B) {s' : ev_S} (h : s'.1 ≤ 48) : am_c (tr_e P n) 0 ev_s0 s' ≤ 7104 := by
  obtain ⟨h0, F⟩ := re_full A
  have hn : n ≤ 48 := by have := A.2.2.1; have := A.2.2.2.1; omega
  have e := tr_root (P := P) h0
  show 3 * (tr_e P n 0 - 0) + 145 * (s'.1 - 0) ≤ 7104
  omega
theorem xx_interpret {post : SX → Prop} (A : re_A cs n 0 L K P N Lv S O B) (XT : re_X n K P N Lv S O B a_kinds a_operands a_parents a_places a_children a_levels a_nests a_scopes a_nodeLambdas a_lambdaNodes) (hE : E < 2) (hcl : cl ≤ 48) (h64 : cm ≤ 64)
    (hp : ∀ ca co cll clv fr ret fv wc wt, post (f_cellLimit, (nI cl), (nI cm), f_nodes, f_holes, f_lambdas, f_stageReached, f_grown, f_codeLength, (nI E), (nI (ru_e (ru_ev K P N O a_operands n cl cm).1)), ca, co, fr, wc, a_kinds, a_operands, a_parents, a_places, a_children, a_levels, a_nests, a_scopes, a_nodeLambdas, a_lambdaNodes, a_liveNodes, a_nodeFlows, a_paramFlows, a_codeOps, a_codeNodes, a_codeTargets, a_branchSpots, a_entries, ret, fv, cll, clv, wt, (ru_r E a_records (nI (ru_e (ru_ev K P N O a_operands n cl cm).1)) (ru_v K (ru_ev K P N O a_operands n cl cm).2 (ru_ev K P N O a_operands n cl cm).1) (ru_n (ru_ev K P N O a_operands n cl cm).1) (nI (ru_ev K P N O a_operands n cl cm).2.1) (nI (ru_ev K P N O a_operands n cl cm).2.2.1)), (re_cs E old (ru_ev K P N O a_operands n cl cm).2.2.2.2.2))) :
    wpX_interpret post (f_cellLimit, (nI cl), (nI cm), f_nodes, f_holes, f_lambdas, f_stageReached, f_grown, f_codeLength, (nI E), (nI 0), (nI 0), (nI 0), (nI 0), (nI 0), a_kinds, a_operands, a_parents, a_places, a_children, a_levels, a_nests, a_scopes, a_nodeLambdas, a_lambdaNodes, a_liveNodes, a_nodeFlows, a_paramFlows, a_codeOps, a_codeNodes, a_codeTargets, a_branchSpots, a_entries, a_frameReturns, a_frameValues, a_closureLambdas, a_closureValues, a_waiting, a_records, (re_cs E old (fun _ => 0))) := by
  obtain ⟨h0, F0⟩ := re_full A
  have hn : n ≤ 48 := by have := A.2.2.1; have := A.2.2.2.1; omega
  have N0 : N 0 = 0 := (A.2.2.2.2.2.2.1 0 h0).1 rfl
  obtain ⟨Pr, Po⟩ := ru_post (cm := cm) A a_operands hcl
  have run := am_run (re_ev_T A) (re_tr_L A) hcl (xi_R (post := post) (f_cellLimit := f_cellLimit) (f_nodes := f_nodes) (f_holes := f_holes) (f_lambdas := f_lambdas) (f_stageReached := f_stageReached) (f_grown := f_grown) (f_codeLength := f_codeLength) (a_liveNodes := a_liveNodes) (a_nodeFlows := a_nodeFlows) (a_paramFlows := a_paramFlows) (a_codeOps := a_codeOps) (a_codeNodes := a_codeNodes) (a_codeTargets := a_codeTargets) (a_branchSpots := a_branchSpots) (a_entries := a_entries) (a_records := a_records) (old := old) A XT hE hcl h64) 2400 ev_e0' 0 ev_s0 Pr
  have run' : am_M (tr_e P n) N Lv _ _ ev_e0' 0 ev_s0 (ru_ev K P N O a_operands n cl cm).1 (ru_ev K P N O a_operands n cl cm).2 := run
  obtain ⟨g1, g2⟩ := run' 0 (fun _ => ev_e0') (fun _ => 0) 0 (fun _ => .inl 0) (Nat.le_refl _) (Nat.zero_le _) rfl
  have W1 := Po.1.1
  have W2 := Po.1.2.1
  have cost := ru_cost (P := P) (K := K) A (s' := (ru_ev K P N O a_operands n cl cm).2) (by omega)
  generalize hr : (ru_ev K P N O a_operands n cl cm).1 = r at *
  generalize hs : (ru_ev K P N O a_operands n cl cm).2 = s' at *
  rcases r with v | x
  · refine ⟨7107, ?_⟩
    have fin := g1 v rfl 2 (fun st f ca co cll clv fr ret fv wc wt h1 h2 hr => by
      obtain ⟨f, rfl⟩ : ∃ f', f = f' + 1 := ⟨f - 1, by omega⟩
      obtain ⟨f, rfl⟩ : ∃ f', f = f' + 1 := ⟨f - 1, by omega⟩
      have ov := Po.2.2.1 v rfl
      refine br_f (nI_ge (b := 1000000) (by omega) (by decide)) (br_t rfl (br_t (xe_n 0 (by decide)).1 ?_))
      have bk : (xe_c (.inr 0) ^^^ (-1)) = nI 0 := (xe_n 0 (by decide)).2
      rw [bk]
      refine ⟨vp_in_nI (by decide) (by decide), nm_r (XT.2.2.1 h0) (br_f (by decide) ?_)⟩
      refine xo_end (nn := N) hE (by omega) (by decide) ov hr (fun wc' => nm_r (nI_1 st) ?_)
      have ne : ¬ nI (ru_a v) = 0 := ru_a0 v
      exact br_f (nI_ge (b := 1000000) (by omega) (by decide)) (br_f ne (hp _ _ _ _ _ _ _ _ _)))
    exact fin 0 7107 _ _ _ _ _ _ _ _ _ (by omega) (by omega) (xr_0 (tr_lc K) N N 0 (fun _ => ev_e0') (fun _ => 0) (fun _ => .inl 0) N0 a_closureLambdas a_closureValues a_frameReturns a_frameValues a_waiting)
  · refine ⟨7107, ?_⟩
    have fin := g2 x rfl (fun cll clv fr ret fv wc wt => hp _ _ _ _ _ _ _ _ _)
    exact fin 0 7107 _ _ _ _ _ _ _ _ _ (by omega) (by omega) (xr_0 (tr_lc K) N N 0 (fun _ => ev_e0') (fun _ => 0) (fun _ => .inl 0) N0 a_closureLambdas a_closureValues a_frameReturns a_frameValues a_waiting)
theorem xx_execute {post : SX → Prop} {t : so_S} (A : re_A cs n 0 L K P N Lv S O B) (XT : re_X n K P N Lv S O B a_kinds a_operands a_parents a_places a_children a_levels a_nests a_scopes a_nodeLambdas a_lambdaNodes) (hE : E < 2) (hcl : cl ≤ 48) (h64 : cm ≤ 64) (hcn : cn ≤ 113) (Cl : so_Cl K (tr_e P n) B (tr_lc K) (re_bd K n) L n t) (t0 : t.1 0 = 1) (I : cp_I K (tr_e P n) N oc nd tg en t n L cn) (hk6 : ∀ x, x < cn → oc x = 6 → ∀ l, l < L → t.2.1 (nd x + 1) = 2 ^ l → tg x = en l) (hen : ∀ l, l < L → a_entries l = nI (en l))
    (hp : ∀ ca co cll clv fr ret fv wc wt, post (f_cellLimit, (nI cl), (nI cm), f_nodes, f_holes, f_lambdas, f_stageReached, f_grown, f_codeLength, (nI E), (nI (ru_e (ru_ev K P N O a_operands n cl cm).1)), ca, co, fr, wc, a_kinds, a_operands, a_parents, a_places, a_children, a_levels, a_nests, a_scopes, a_nodeLambdas, a_lambdaNodes, a_liveNodes, a_nodeFlows, a_paramFlows, (rn_F oc), (rn_F nd), (rn_F tg), a_branchSpots, a_entries, ret, fv, cll, clv, wt, (ru_r E a_records (nI (ru_e (ru_ev K P N O a_operands n cl cm).1)) (ru_v K (ru_ev K P N O a_operands n cl cm).2 (ru_ev K P N O a_operands n cl cm).1) (ru_n (ru_ev K P N O a_operands n cl cm).1) (nI (ru_ev K P N O a_operands n cl cm).2.1) (nI (ru_ev K P N O a_operands n cl cm).2.2.1)), (re_cs E old (ru_ev K P N O a_operands n cl cm).2.2.2.2.2))) :
    wpX_execute post (f_cellLimit, (nI cl), (nI cm), f_nodes, f_holes, f_lambdas, f_stageReached, f_grown, f_codeLength, (nI E), (nI 0), (nI 0), (nI 0), (nI 0), (nI 0), a_kinds, a_operands, a_parents, a_places, a_children, a_levels, a_nests, a_scopes, a_nodeLambdas, a_lambdaNodes, a_liveNodes, a_nodeFlows, a_paramFlows, (rn_F oc), (rn_F nd), (rn_F tg), a_branchSpots, a_entries, a_frameReturns, a_frameValues, a_closureLambdas, a_closureValues, a_waiting, a_records, (re_cs E old (fun _ => 0))) := by
  obtain ⟨h0, F0⟩ := re_full A
  have hn : n ≤ 48 := by have := A.2.2.1; have := A.2.2.2.1; omega
  have hL : L ≤ 16 := A.2.2.2.2.2.1
  have hLn := A.2.2.2.2.1
  have N0 : N 0 = 0 := (A.2.2.2.2.2.2.1 0 h0).1 rfl
  have sc0 : ∀ l, (fun m l => (S m).testBit l) 0 l = false := (A.2.2.2.2.2.2.2.1 0 h0).1 rfl
  obtain ⟨Pr, Po⟩ := ru_post (cm := cm) A a_operands hcl
  have Bs := re_so_B (bd := re_bd K n) A (re_bd_is (K := K) (n := n))
  have G : cm_G K (tr_e P n) (tr_lc K) (re_bd K n) oc nd tg en L n cn t := cp_G I (fun p hp kp => by rw [hLn]; exact tr_lc_lt hp kp) hk6
  have run := cm_run (re_ev_T A) (re_tr_L A) hcl hL Bs Cl G (xc_R (post := post) (f_cellLimit := f_cellLimit) (f_nodes := f_nodes) (f_holes := f_holes) (f_lambdas := f_lambdas) (f_stageReached := f_stageReached) (f_grown := f_grown) (f_codeLength := f_codeLength) (a_liveNodes := a_liveNodes) (a_nodeFlows := a_nodeFlows) (a_paramFlows := a_paramFlows) (a_branchSpots := a_branchSpots) (a_entries := a_entries) (a_records := a_records) (old := old) A XT hE hcl h64 hcn I.2.2 hen) 2400 ev_e0' 0 ev_s0 Pr (so_sp0 sc0 t0)
  have run' : cm_M K (tr_e P n) Lv oc nd tg cn t _ _ ev_e0' 0 ev_s0 (ru_ev K P N O a_operands n cl cm).1 (ru_ev K P N O a_operands n cl cm).2 := run
  obtain ⟨d, x0, la, xlt, o9, n9⟩ := I.1
  have lt := la_lt _ _ _ _ la
  have nd0 : N (nd 0) = 0 := by
    have := (la_N (N := N) (re_ev_T A).1 (re_ev_T A).2.1 cm_sk_in (re_ev_T A).2.2.2.1 d 0 0 x0 h0 la 0 (Nat.le_refl _) lt).2.1
    rw [this]; exact N0
  obtain ⟨g1, g2⟩ := run' d 0 x0 0 (fun _ => ev_e0') (fun _ => 0) 0 (fun _ => .inl 0) la (by omega) (Nat.le_refl _) (Nat.zero_le _) rfl
  have W1 := Po.1.1
  have W2 := Po.1.2.1
  have cost := ru_cost (P := P) (K := K) A (s' := (ru_ev K P N O a_operands n cl cm).2) (by omega)
  generalize hr : (ru_ev K P N O a_operands n cl cm).1 = r at *
  generalize hs : (ru_ev K P N O a_operands n cl cm).2 = s' at *
  rcases r with v | x
  · refine ⟨7107, ?_⟩
    have fin := g1 v rfl 2 (fun st f ca co cll clv fr ret fv wc wt h1 h2 hr => by
      obtain ⟨f, rfl⟩ : ∃ f', f = f' + 1 := ⟨f - 1, by omega⟩
      obtain ⟨f, rfl⟩ : ∃ f', f = f' + 1 := ⟨f - 1, by omega⟩
      have ov := Po.2.2.1 v rfl
      have vx : vp_in (nI x0) 113 := vp_in_nI (by omega) (by omega)
      have hfr : fr = nI 0 := hr.2.1
      refine br_f (nI_ge (b := 1000000) (by omega) (by decide)) (br_t rfl ⟨vx, ?_⟩)
      rw [rn_at nd (by omega), rn_at oc (by omega), o9]
      refine nm_e ⟨vx, nm_e (br_f (by decide) (br_t (by decide) (br_t hfr ?_)))⟩
      refine xo_end (nn := fun c => N (nd c)) hE (by omega) (by decide) ov hr (fun wc' => nm_r (nI_1 st) ?_)
      have ne : ¬ nI (ru_a v) = 0 := ru_a0 v
      exact br_f (nI_ge (b := 1000000) (by omega) (by decide)) (br_f ne (hp _ _ _ _ _ _ _ _ _)))
    exact fin 0 7107 _ _ _ _ _ _ _ _ _ (by omega) (by omega) (xr_0 (tr_lc K) N (fun c => N (nd c)) 0 (fun _ => ev_e0') (fun _ => 0) (fun _ => .inl 0) nd0 a_closureLambdas a_closureValues a_frameReturns a_frameValues a_waiting)
  · refine ⟨7107, ?_⟩
    have fin := g2 x rfl (fun cll clv fr ret fv wc wt => hp _ _ _ _ _ _ _ _ _)
    exact fin 0 7107 _ _ _ _ _ _ _ _ _ (by omega) (by omega) (xr_0 (tr_lc K) N (fun c => N (nd c)) 0 (fun _ => ev_e0') (fun _ => 0) (fun _ => .inl 0) nd0 a_closureLambdas a_closureValues a_frameReturns a_frameValues a_waiting)
end
