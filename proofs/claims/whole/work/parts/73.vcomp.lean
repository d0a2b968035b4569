/-! ===== compile ===== -/
section
variable {f_cellLimit f_callLimit f_closureLimit f_nodes f_holes f_lambdas f_stageReached f_grown f_codeLength f_runningEngine f_ending f_callCount f_closureCount f_frame f_waitingCount : Int32} {a_kinds a_operands a_parents a_places a_children a_levels a_nests a_scopes a_nodeLambdas a_lambdaNodes a_liveNodes a_nodeFlows a_paramFlows a_codeOps a_codeNodes a_codeTargets a_branchSpots a_entries a_frameReturns a_closureLambdas a_records a_calledSets : Nat → Int32} {a_closureValues a_frameValues a_waiting : Nat → Int64}
variable {cs n L : Nat} {K P N Lv S O B : Nat → Nat} {t : so_S}
theorem xx_compile {post : Int32 → SX → Prop} {st cn : Nat} {oc nd tg bs : Nat → Nat} (hst : 1 ≤ st) (hst2 : st ≤ 2) (A : re_A cs n 0 L K P N Lv S O B) (XT : re_X n K P N Lv S O B a_kinds a_operands a_parents a_places a_children a_levels a_nests a_scopes a_nodeLambdas a_lambdaNodes) (R : so_R n L t) (X : so_X n L t a_liveNodes a_nodeFlows a_paramFlows)
    (hpost : ∀ (z : Nat) (oc nd tg bs en : Nat → Nat) (ent : Nat → Int32), z ≤ 113 → cp_I K (tr_e P n) N oc nd tg en t n L z → (∀ x, x < z → oc x = 6 → ∀ l, l < L → t.2.1 (nd x + 1) = 2 ^ l → tg x = en l) → (∀ l, l < L → ent l = nI (en l)) → post (nI (fo_n K (tr_e P n) (re_bd K n) t n L)) (f_cellLimit, f_callLimit, f_closureLimit, (nI n), f_holes, (nI L), (nI 2), f_grown, (nI z), f_runningEngine, f_ending, f_callCount, f_closureCount, f_frame, f_waitingCount, a_kinds, a_operands, a_parents, a_places, a_children, a_levels, a_nests, a_scopes, a_nodeLambdas, a_lambdaNodes, a_liveNodes, a_nodeFlows, a_paramFlows, (rn_F oc), (rn_F nd), (rn_F tg), (rn_F bs), ent, a_frameReturns, a_frameValues, a_closureLambdas, a_closureValues, a_waiting, a_records, a_calledSets)) :
    wpX_compile post (f_cellLimit, f_callLimit, f_closureLimit, (nI n), f_holes, (nI L), (nI st), f_grown, (nI cn), f_runningEngine, f_ending, f_callCount, f_closureCount, f_frame, f_waitingCount, a_kinds, a_operands, a_parents, a_places, a_children, a_levels, a_nests, a_scopes, a_nodeLambdas, a_lambdaNodes, a_liveNodes, a_nodeFlows, a_paramFlows, (rn_F oc), (rn_F nd), (rn_F tg), (rn_F bs), a_entries, a_frameReturns, a_frameValues, a_closureLambdas, a_closureValues, a_waiting, a_records, a_calledSets) := by
  have hn : n ≤ 48 := by have := A.2.2.1; have := A.2.2.2.1; omega
  have hL : L ≤ 16 := A.2.2.2.2.2.1
  have hLn := A.2.2.2.2.1
  obtain ⟨h0, F⟩ := re_full A
  have T := tr_T_of A.1 F
  have C : tr_C K (tr_e P n) N n := tr_C_of A.1 F A.2.2.2.2.2.2.1
  have hK : ∀ m, m < n → K m ≤ 6 := fun m hm => (A.2.2.2.2.2.2.2.2.2.1 m hm).1
  obtain ⟨Y, y0, yb⟩ := tr_ky_of A.1 F hn
  have ag : ∀ {z x m : Nat} {oc nd tg oc' nd' tg' : Nat → Nat}, em_ag z oc nd tg oc' nd' tg' → z ≤ x → em_ag z oc nd tg (tr_put oc' x 9) (tr_put nd' x m) tg' := fun {z x m oc nd tg oc' nd' tg'} g hx j hj => by
    obtain ⟨g1, g2, g3⟩ := g j hj
    exact ⟨(tr_put_n _ _ (by omega)).trans g1, (tr_put_n _ _ (by omega)).trans g2, g3⟩
  -- the lambdas
  have go : ∀ d l f z oc nd tg bs en ent, l + d = L → d < f → cp_I K (tr_e P n) N oc nd tg en t n l z → z ≤ 2 * em_dd (tr_kyf K P 48) n (l + 1) + (l + 1) → (∀ j, j < l → ent j = nI (en j)) → wX_compile_23 post f (nI l) f_cellLimit f_callLimit f_closureLimit (nI n) f_holes (nI L) (nI st) f_grown (nI z) f_runningEngine f_ending f_callCount f_closureCount f_frame f_waitingCount a_kinds a_operands a_parents a_places a_children a_levels a_nests a_scopes a_nodeLambdas a_lambdaNodes a_liveNodes a_nodeFlows a_paramFlows (rn_F oc) (rn_F nd) (rn_F tg) (rn_F bs) ent a_frameReturns a_frameValues a_closureLambdas a_closureValues a_waiting a_records a_calledSets := by
    intro d
    induction d with
    | zero =>
      intro l f z oc nd tg bs en ent hl hf I hz he
      obtain ⟨f, rfl⟩ : ∃ f', f = f' + 1 := ⟨f - 1, by omega⟩
      have e : l = L := by omega
      subst e
      have hd := em_dd_n (tr_kyf K P 48) n (l + 1)
      refine br_t (nI_le (Nat.le_refl _) (by omega)) ?_
      refine xx_link A XT R X (by omega) (fun c hc => ⟨(I.2.2 c hc).1, (I.2.2 c hc).2.2.2.2⟩) (fun c hc => (I.2.2 c hc).2.1) he (fun tg' g1 g2 => ?_)
      exact xx_kept A XT R X (hpost z oc nd tg' bs en ent (by omega) (cp_link I g1) g2 he)
    | succ d ih =>
      intro l f z oc nd tg bs en ent hl hf I hz he
      obtain ⟨f, rfl⟩ : ∃ f', f = f' + 1 := ⟨f - 1, by omega⟩
      obtain ⟨q1, q2, q3⟩ := tr_ln_of (K := K) (n := n) (l := l) (by omega)
      obtain ⟨r1, r2, _⟩ := re_kid0 A XT q1 (by omega)
      have el := XT.2.2.2.2.2.2.2.2 _ q1 q2
      rw [q3] at el
      have kyb := yb _ q1 q2
      rw [q3] at kyb
      have r2' : a_children (tr_ln K n l * 3) = nI (tr_ln K n l + 1) := r2
      have vl : vp_in (nI l) 16 := vp_in_nI (by omega) (by omega)
      have vb : vp_in (nI (tr_ln K n l + 1)) 48 := vp_in_nI (by omega) (by omega)
      have hcl := nI_clamp (n := l) (by omega)
      have hcb := nI_clamp (n := tr_ln K n l + 1) (by omega)
      have dds := em_dd_s (tr_kyf K P 48) n (l + 1)
      have h1 := R.1 (tr_ln K n l + 1)
      refine br_f (nI_ge (by omega) (by omega)) (xx_bodyOf (by omega) (by omega) el ?_)
      rw [r2']
      refine ⟨vb, ?_⟩
      rw [hcb, (X.1 _ r1).1]
      by_cases w : t.1 (tr_ln K n l + 1) = 1
      · -- a live body
        rw [w]
        refine br_f (by decide) ⟨vl, nm_e ⟨vb, ?_⟩⟩
        rw [hcb, (X.1 _ r1).1, w, hcl]
        refine br_f (by decide) ?_
        have he' := (T _ r1).2.1
        obtain ⟨room1, room2, room3⟩ := em_room (e := tr_e P n) hn (show l + 1 ≤ 16 by omega) he' kyb hz
        refine xx_piece A XT r1 R X Y room2 (fun d x oc' nd' tg' bs' la u g => nm_r (nI_1 l) ?_)
        have lt := la_lt _ _ _ _ la
        have g' := ag (m := tr_ln K n l + 1) g (Nat.le_of_lt lt)
        obtain ⟨n1, n2⟩ := cp_new (N := N) T C hK r1 la
        refine ih (l + 1) f (x + 1) _ _ _ _ (tr_put en l z) _ (by omega) (by omega) ⟨cp_P_up I.1 g' (by omega), fun p hp kp hlp tp => ?_, fun c hc => ?_⟩ (room3 x u) (fun j hj => ?_)
        · by_cases e : tr_lc K p = l
          · have ep : p = tr_ln K n l := tr_lc_inj kp q2 (by omega)
            rw [e, tr_put_s, ep]
            exact n1
          · rw [tr_put_n _ _ e]
            exact cp_P_up (I.2.1 p hp kp (by omega) tp) g' (by omega)
        · rcases Nat.lt_or_ge c z with y | y
          · exact cp_c_up I.2.2 g' (by omega) c y
          · exact n2 c y hc
        · by_cases e : j = l
          · rw [e, re_us, tr_put_s]
          · rw [re_un e, tr_put_n _ _ e]; exact he j (by omega)
      · -- a dropped lambda
        have w0 : t.1 (tr_ln K n l + 1) = 0 := by omega
        rw [w0]
        refine br_t rfl ⟨vl, nm_e ⟨vb, ?_⟩⟩
        rw [hcb, (X.1 _ r1).1, w0, hcl]
        refine br_t rfl (nm_r (nI_1 l) ?_)
        refine ih (l + 1) f z oc nd tg bs (tr_put en l 0) _ (by omega) (by omega) ⟨I.1, fun p hp kp hlp tp => ?_, I.2.2⟩ (by omega) (fun j hj => ?_)
        · by_cases e : tr_lc K p = l
          · have ep : p = tr_ln K n l := tr_lc_inj kp q2 (by omega)
            rw [ep, w0] at tp
            cases tp
          · rw [tr_put_n _ _ e]
            exact I.2.1 p hp kp (by omega) tp
        · by_cases e : j = l
          · rw [e, re_us, tr_put_s]; rfl
          · rw [re_un e, tr_put_n _ _ e]; exact he j (by omega)
  have e0 : tr_e P n 0 ≤ n := (T 0 h0).2.1
  obtain ⟨room1, room2, room3⟩ := em_room (e := tr_e P n) (z := 0) hn (show 0 ≤ 16 by omega) e0 y0 (Nat.zero_le _)
  refine br_t (nI_le (a := 1) hst (by omega)) ?_
  refine xx_piece (z := 0) (st := 0) A XT h0 R X Y room2 (fun d x oc' nd' tg' bs' la u g => ?_)
  obtain ⟨n1, n2⟩ := cp_new (N := N) T C hK h0 la
  refine ⟨L + 1, go L 0 (L + 1) (x + 1) _ _ _ _ (fun _ => 0) _ (by omega) (by omega) ⟨n1, fun p _ _ hp => absurd hp (Nat.not_lt_zero _), fun c hc => n2 c (Nat.zero_le _) hc⟩ (room3 x u) (fun j hj => absurd hj (Nat.not_lt_zero j))⟩
end
section
variable {g_cellLimit g_callLimit g_closureLimit g_nodes g_holes g_reached : Int32} {b_kinds b_operands b_parents b_s b_p b_rec b_sets b_live b_done b_fn b_val b_entered b_bind : Nat → Int32}
variable {cs n L : Nat} {K P N Lv S O B : Nat → Nat} {t : so_S}
theorem yy_compile {post : Int32 → SY → Prop} {st : Nat} (hst : 1 ≤ st) (hst2 : st ≤ 2) (A : re_A cs n 0 L K P N Lv S O B) (hk : ∀ m, m < n → b_kinds m = nI (K m) ∧ K m ≤ 6) (hpa : ∀ m, 0 < m → m < n → b_parents m = nI (P m)) (R : so_R n L t) (X : so_X n L t b_live b_s b_p) (h : post (nI (fo_n K (tr_e P n) (re_bd K n) t n L)) (g_cellLimit, g_callLimit, g_closureLimit, (nI n), g_holes, (nI 2), b_kinds, b_operands, b_parents, b_s, b_p, b_rec, b_sets, b_live, b_done, b_fn, b_val, b_entered, b_bind)) : wpY_compile post (g_cellLimit, g_callLimit, g_closureLimit, (nI n), g_holes, (nI st), b_kinds, b_operands, b_parents, b_s, b_p, b_rec, b_sets, b_live, b_done, b_fn, b_val, b_entered, b_bind) := by
  have hn : n ≤ 48 := by have := A.2.2.1; have := A.2.2.2.1; omega
  have hL : L ≤ 16 := A.2.2.2.2.2.1
  have hLn := A.2.2.2.2.1
  have gB : ∀ d i f, i + d = 16 → d < f → L ≤ i → wY_compile_15 post g_cellLimit g_callLimit g_closureLimit (nI n) g_holes (nI st) b_kinds b_operands b_parents b_s b_p b_rec b_sets b_live b_done b_fn b_val b_entered b_bind f (nI (fo_n K (tr_e P n) (re_bd K n) t n L)) (nI i) := by
    intro d
    induction d with
    | zero =>
      intro i f hi hf hLi
      obtain ⟨f, rfl⟩ : ∃ f', f = f' + 1 := ⟨f - 1, by omega⟩
      have e : i = 16 := by omega
      subst e
      exact br_t (by decide) h
    | succ d ih =>
      intro i f hi hf hLi
      obtain ⟨f, rfl⟩ : ∃ f', f = f' + 1 := ⟨f - 1, by omega⟩
      refine br_f (nI_ge (b := 16) (by omega) (by decide)) ?_
      unfold wpY_form
      refine yy_lambdaNode hn hk (fun a ha ka ea => ?_) (fun _ => ?_)
      · have la := tr_lc_lt ha ka
        have : i = tr_lc K a := (nI_eq (by omega) (by omega)).mp ea
        omega
      · exact br_f (fun w => by have := (ez_st hst2).1.mp w; omega) (br_f (by decide) (br_t (by decide) (nm_r (nI_1 i) (ih (i + 1) f (by omega) (by omega) (by omega)))))
  have gA : ∀ d i f, i + d = L → d + 17 < f → wY_compile_15 post g_cellLimit g_callLimit g_closureLimit (nI n) g_holes (nI st) b_kinds b_operands b_parents b_s b_p b_rec b_sets b_live b_done b_fn b_val b_entered b_bind f (nI (fo_n K (tr_e P n) (re_bd K n) t n i)) (nI i) := by
    intro d
    induction d with
    | zero =>
      intro i f hi hf
      have e : i = L := by omega
      subst e
      exact gB (16 - i) i f (by omega) (by omega) (Nat.le_refl _)
    | succ d ih =>
      intro i f hi hf
      obtain ⟨f, rfl⟩ : ∃ f', f = f' + 1 := ⟨f - 1, by omega⟩
      have nx := ih (i + 1) f (by omega) (by omega)
      have e : fo_n K (tr_e P n) (re_bd K n) t n (i + 1) = (if fo_c K (tr_e P n) (re_bd K n) t n i = 0 then fo_n K (tr_e P n) (re_bd K n) t n i else fo_n K (tr_e P n) (re_bd K n) t n i + 1) := rfl
      rw [e] at nx
      have c2 := fo_c2 K (tr_e P n) (re_bd K n) t n i
      refine br_f (nI_ge (b := 16) (by omega) (by decide)) (yy_form A hk hpa hst hst2 (by omega) R X ?_)
      by_cases z : fo_c K (tr_e P n) (re_bd K n) t n i = 0
      · rw [if_pos z] at nx
        rw [z]
        exact br_t (by decide) (nm_r (nI_1 i) nx)
      · rw [if_neg z] at nx
        exact br_f (nI_nle (by omega) (by omega)) (nm_r (nI_1 _) (nm_r (nI_1 i) nx))
  exact br_t (nI_le (a := 1) hst (by omega)) ⟨L + 18, gA L 0 (L + 18) (by omega) (by omega)⟩
end
theorem i_vc_compile {k : Nat} {u : SX} {v : SY} (I : i_Rel k u v) (hk : k + 3 ≤ 1539) : wpX_compile (fun r u' => wpY_compile (fun r' v' => r' = r ∧ i_Rel (k + 3) u' v') v) u := by
  refine i_el (G := fun u v => wpX_compile (fun r u' => wpY_compile (fun r' v' => r' = r ∧ i_Rel (k + 3) u' v') v) u) I ?_
  intro cs cl cm n h L st cn K P N Lv S O B oc nd tg bs en dn et bi f_grown f_runningEngine f_ending f_callCount f_closureCount f_frame f_waitingCount a_kinds a_operands a_parents a_places a_children a_levels a_nests a_scopes a_nodeLambdas a_lambdaNodes a_liveNodes a_nodeFlows a_paramFlows a_entries a_frameReturns a_closureLambdas a_records a_calledSets a_closureValues a_frameValues a_waiting b_s b_p b_live b_fn b_val hI I0
  obtain ⟨A, X, l1, l2, m1, m2, s, S1, S2⟩ := hI
  obtain ⟨hn, hh, hL⟩ := ez_48 A
  by_cases z : st = 0
  · have q : ¬ 1 ≤ nI st := by rw [z]; decide
    exact br_f q (br_f q ⟨rfl, I0⟩)
  · obtain ⟨h0, a1, a2⟩ := S1 (by omega)
    subst h0
    have R := so_sol_R (re_so_T A (re_bd_is (K := K) (n := n))) (re_full A).1
    refine xx_compile (by omega) s A X R a1 (fun z' oc' nd' tg' bs' en' ent hz I1 I2 I3 => ?_)
    refine yy_compile (by omega) s A (ez_kd A X) X.2.2.2.1 R a2 ⟨rfl, ?_⟩
    exact i_in (st := 2) (N := N) (Lv := Lv) (S := S) (O := O) (en := en') ⟨A, X, l1, l2, m1, m2, by decide, fun _ => ⟨rfl, a1, a2⟩, fun _ => ⟨hz, I1, I2, I3⟩⟩
