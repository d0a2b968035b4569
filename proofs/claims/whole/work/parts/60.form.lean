/-! ===== site and form ===== -/
def si_c (K e : Nat → Nat) (t : so_S) (m : Nat) : Nat := if K m = 3 then (if t.1 m = 0 then 1 else if t.2.1 (m + 1) % 65536 = 0 ∨ t.2.1 (e (m + 1)) = 0 then 2 else if t.2.1 (m + 1) &&& (t.2.1 (m + 1) - 1) = 0 then 3 else 4) else 0
theorem si_4 (K e : Nat → Nat) (t : so_S) (m : Nat) : si_c K e t m ≤ 4 := by
  unfold si_c
  by_cases a : K m = 3
  · rw [if_pos a]
    by_cases b : t.1 m = 0
    · rw [if_pos b]; omega
    · rw [if_neg b]
      by_cases c : t.2.1 (m + 1) % 65536 = 0 ∨ t.2.1 (e (m + 1)) = 0
      · rw [if_pos c]; omega
      · rw [if_neg c]
        by_cases d : t.2.1 (m + 1) &&& (t.2.1 (m + 1) - 1) = 0
        · rw [if_pos d]; omega
        · rw [if_neg d]; omega
  · rw [if_neg a]; omega
/-- both sides ask the same of the two masks -/
theorem si_ask {post : Int32 → Prop} {f a : Nat} (hf : f < 131072) (ha : a < 131072) (h : post (nI (if f % 65536 = 0 ∨ a = 0 then 2 else if f &&& (f - 1) = 0 then 3 else 4))) : ((nI f &&& 65535) = 0 → post 2) ∧ (¬ (nI f &&& 65535) = 0 → ((nI a = 0 → post 2) ∧ (¬ nI a = 0 → (((nI f &&& (nI f - 1)) = 0 → post 3) ∧ (¬ (nI f &&& (nI f - 1)) = 0 → post 4))))) := by
  by_cases z : f % 65536 = 0
  · rw [if_pos (Or.inl z)] at h
    exact br_t ((bi_65535 (by omega)).mpr z) h
  · refine br_f (fun w => z ((bi_65535 (by omega)).mp w)) ?_
    by_cases y : a = 0
    · rw [if_pos (Or.inr y)] at h
      exact br_t ((bi_0 (by omega)).mpr y) h
    · rw [if_neg (by rintro (q | q); exact z q; exact y q)] at h
      refine br_f (fun w => y ((bi_0 (by omega)).mp w)) ?_
      have f0 : 0 < f := by
        rcases Nat.eq_zero_or_pos f with q | q
        · subst q; exact absurd rfl z
        · exact q
      by_cases x : f &&& (f - 1) = 0
      · rw [if_pos x] at h
        exact br_t ((bi_low (by omega) f0).mpr x) h
      · rw [if_neg x] at h
        exact br_f (fun w => x ((bi_low (by omega) f0).mp w)) h
def fo_l (si : Nat → Nat) (b : Nat → Bool) : Nat → Nat → Nat
  | 0, _ => 1
  | d + 1, i => if si i = 4 ∧ b i = true then 2 else fo_l si b d (i + 1)
def fo_c (K e bd : Nat → Nat) (t : so_S) (n l : Nat) : Nat := if t.1 (bd l) = 0 then 0 else fo_l (si_c K e t) (fun i => (t.2.1 (i + 1)).testBit l) n 0
theorem fo_2 (si : Nat → Nat) (b : Nat → Bool) : ∀ d i, 1 ≤ fo_l si b d i ∧ fo_l si b d i ≤ 2 := by
  intro d
  induction d with
  | zero => intro i; exact ⟨Nat.le_refl _, by show (1 : Nat) ≤ 2; omega⟩
  | succ d ih =>
    intro i
    show 1 ≤ (if si i = 4 ∧ b i = true then 2 else fo_l si b d (i + 1)) ∧ (if si i = 4 ∧ b i = true then 2 else fo_l si b d (i + 1)) ≤ 2
    by_cases z : si i = 4 ∧ b i = true
    · rw [if_pos z]; omega
    · rw [if_neg z]; exact ih (i + 1)
theorem fo_c2 (K e bd : Nat → Nat) (t : so_S) (n l : Nat) : fo_c K e bd t n l ≤ 2 := by
  unfold fo_c
  by_cases z : t.1 (bd l) = 0
  · rw [if_pos z]; omega
  · rw [if_neg z]; exact (fo_2 _ _ n 0).2
section
variable {f_cellLimit f_callLimit f_closureLimit f_nodes f_holes f_lambdas f_stageReached f_grown f_codeLength f_runningEngine f_ending f_callCount f_closureCount f_frame f_waitingCount : Int32} {a_kinds a_operands a_parents a_places a_children a_levels a_nests a_scopes a_nodeLambdas a_lambdaNodes a_liveNodes a_nodeFlows a_paramFlows a_codeOps a_codeNodes a_codeTargets a_branchSpots a_entries a_frameReturns a_closureLambdas a_records a_calledSets : Nat → Int32} {a_closureValues a_frameValues a_waiting : Nat → Int64}
variable {cs n L : Nat} {K P N Lv S O B : Nat → Nat} {t : so_S}
theorem xx_siteOf {post : Int32 → Prop} {m : Nat} (A : re_A cs n 0 L K P N Lv S O B) (XT : re_X n K P N Lv S O B a_kinds a_operands a_parents a_places a_children a_levels a_nests a_scopes a_nodeLambdas a_lambdaNodes) (hm : m < n) (R : so_R n L t) (X : so_X n L t a_liveNodes a_nodeFlows a_paramFlows) (h : post (nI (si_c K (tr_e P n) t m))) : wpX_siteOf post (f_cellLimit, f_callLimit, f_closureLimit, f_nodes, f_holes, f_lambdas, f_stageReached, f_grown, f_codeLength, f_runningEngine, f_ending, f_callCount, f_closureCount, f_frame, f_waitingCount, a_kinds, a_operands, a_parents, a_places, a_children, a_levels, a_nests, a_scopes, a_nodeLambdas, a_lambdaNodes, a_liveNodes, a_nodeFlows, a_paramFlows, a_codeOps, a_codeNodes, a_codeTargets, a_branchSpots, a_entries, a_frameReturns, a_frameValues, a_closureLambdas, a_closureValues, a_waiting, a_records, a_calledSets) (nI m) := by
  have hn : n ≤ 48 := by have := A.2.2.1; have := A.2.2.2.1; omega
  have hL : L ≤ 16 := A.2.2.2.2.2.1
  have k6 := (A.2.2.2.2.2.2.2.2.2.1 m hm).1
  have ms := fun i => so_ms_lt hL (R.2.2.2.1 i)
  have vm : vp_in (nI m) 48 := vp_in_nI (by omega) (by omega)
  have hcm := nI_clamp (n := m) (by omega)
  refine ⟨vm, ?_⟩
  rw [hcm, XT.1 m hm]
  unfold si_c at h
  by_cases k : K m = 3
  · rw [if_pos k] at h
    refine br_t (by rw [k]; rfl) ⟨vm, ?_⟩
    rw [(X.1 m hm).1]
    have h1 := R.1 m
    by_cases z : t.1 m = 0
    · rw [if_pos z] at h
      rw [z]
      exact br_t rfl h
    · rw [if_neg z] at h
      obtain ⟨r1, r2, _⟩ := re_kid0 A XT hm (by omega)
      obtain ⟨s1, s2, _⟩ := re_kid1 A XT hm (by omega)
      refine br_f (nI_ne0 (by omega) (by omega)) (xx_childAt (k := 0) (by omega) (by omega) ?_)
      rw [r2]
      refine ⟨vp_in_nI (by omega) (by omega), ?_⟩
      rw [nI_clamp (by omega)]
      refine nm_r (X.1 _ r1).2 (xx_childAt (k := 1) (by omega) (by omega) ?_)
      rw [s2]
      refine ⟨vp_in_nI (by omega) (by omega), ?_⟩
      rw [nI_clamp (by omega)]
      exact nm_r (X.1 _ s1).2 (si_ask (ms _) (ms _) h)
  · rw [if_neg k] at h
    exact br_f (fun w => k ((nI_eq (b := 3) (by omega) (by decide)).mp w)) h
theorem xx_formOf {post : Int32 → Prop} {l : Nat} (A : re_A cs n 0 L K P N Lv S O B) (XT : re_X n K P N Lv S O B a_kinds a_operands a_parents a_places a_children a_levels a_nests a_scopes a_nodeLambdas a_lambdaNodes) (hl : l < L) (R : so_R n L t) (X : so_X n L t a_liveNodes a_nodeFlows a_paramFlows) (h : post (nI (fo_c K (tr_e P n) (re_bd K n) t n l))) : wpX_formOf post (f_cellLimit, f_callLimit, f_closureLimit, (nI n), f_holes, f_lambdas, f_stageReached, f_grown, f_codeLength, f_runningEngine, f_ending, f_callCount, f_closureCount, f_frame, f_waitingCount, a_kinds, a_operands, a_parents, a_places, a_children, a_levels, a_nests, a_scopes, a_nodeLambdas, a_lambdaNodes, a_liveNodes, a_nodeFlows, a_paramFlows, a_codeOps, a_codeNodes, a_codeTargets, a_branchSpots, a_entries, a_frameReturns, a_frameValues, a_closureLambdas, a_closureValues, a_waiting, a_records, a_calledSets) (nI l) := by
  have hn : n ≤ 48 := by have := A.2.2.1; have := A.2.2.2.1; omega
  have hL : L ≤ 16 := A.2.2.2.2.2.1
  have hLn := A.2.2.2.2.1
  have ms := fun i => so_ms_lt hL (R.2.2.2.1 i)
  obtain ⟨q1, q2, q3⟩ := tr_ln_of (K := K) (n := n) (l := l) (by omega)
  obtain ⟨r1, r2, _⟩ := re_kid0 A XT q1 (by omega)
  have e := XT.2.2.2.2.2.2.2.2 _ q1 q2
  rw [q3] at e
  unfold wpX_formOf
  refine xx_bodyOf (by omega) (by omega) e ?_
  rw [show tr_ln K n l * 3 = tr_ln K n l * 3 + 0 from rfl, r2]
  refine ⟨vp_in_nI (by omega) (by omega), ?_⟩
  rw [nI_clamp (by omega), (X.1 _ r1).1]
  have h1 := R.1 (tr_ln K n l + 1)
  have h' : post (nI (if t.1 (tr_ln K n l + 1) = 0 then 0 else fo_l (si_c K (tr_e P n) t) (fun i => (t.2.1 (i + 1)).testBit l) n 0)) := h
  by_cases z : t.1 (tr_ln K n l + 1) = 0
  · rw [if_pos z] at h'
    rw [z]
    exact br_t rfl h'
  · rw [if_neg z] at h'
    refine br_f (nI_ne0 (by omega) (by omega)) ⟨n + 1, ?_⟩
    have go : ∀ d i f, i + d = n → d < f → post (nI (fo_l (si_c K (tr_e P n) t) (fun i => (t.2.1 (i + 1)).testBit l) d i)) → wX_formOf_17 post (nI l) f_cellLimit f_callLimit f_closureLimit (nI n) f_holes f_lambdas f_stageReached f_grown f_codeLength f_runningEngine f_ending f_callCount f_closureCount f_frame f_waitingCount a_kinds a_operands a_parents a_places a_children a_levels a_nests a_scopes a_nodeLambdas a_lambdaNodes a_liveNodes a_nodeFlows a_paramFlows a_codeOps a_codeNodes a_codeTargets a_branchSpots a_entries a_frameReturns a_frameValues a_closureLambdas a_closureValues a_waiting a_records a_calledSets f (nI i) := by
      intro d
      induction d with
      | zero =>
        intro i f hi hf hp
        obtain ⟨f, rfl⟩ : ∃ f', f = f' + 1 := ⟨f - 1, by omega⟩
        have e : i = n := by omega
        subst e
        exact br_t (nI_le (Nat.le_refl _) (by omega)) hp
      | succ d ih =>
        intro i f hi hf hp
        obtain ⟨f, rfl⟩ : ∃ f', f = f' + 1 := ⟨f - 1, by omega⟩
        have hp' : post (nI (if si_c K (tr_e P n) t i = 4 ∧ (t.2.1 (i + 1)).testBit l = true then 2 else fo_l (si_c K (tr_e P n) t) (fun i => (t.2.1 (i + 1)).testBit l) d (i + 1))) := hp
        refine br_f (nI_ge (by omega) (by omega)) (xx_siteOf A XT (by omega) R X ?_)
        have s4 := si_4 K (tr_e P n) t i
        by_cases y : si_c K (tr_e P n) t i = 4
        · have k3 : K i = 3 := by
            by_cases w : K i = 3
            · exact w
            · unfold si_c at y
              rw [if_neg w] at y
              omega
          obtain ⟨u1, u2, _⟩ := re_kid0 A XT (show i < n by omega) (by omega)
          have mi := ms (i + 1)
          refine br_t (by rw [y]; rfl) (xx_childAt (k := 0) (by omega) (by omega) ?_)
          rw [u2]
          refine ⟨vp_in_nI (by omega) (by omega), ?_⟩
          rw [nI_clamp (by omega), (X.1 _ u1).2]
          cases w : (t.2.1 (i + 1)).testBit l with
          | false =>
            rw [if_neg (by rw [w]; rintro ⟨_, q⟩; cases q)] at hp'
            exact br_t ((bi_test (by omega) (by omega)).mpr w) (nm_r (nI_1 i) (ih (i + 1) f (by omega) (by omega) hp'))
          | true =>
            rw [if_pos ⟨y, w⟩] at hp'
            exact br_f (fun q => by rw [(bi_test (by omega) (by omega)).mp q] at w; cases w) hp'
        · rw [if_neg (fun q => y q.1)] at hp'
          refine br_f (fun q => y ((nI_eq (b := 4) (by omega) (by decide)).mp q)) (nm_r (nI_1 i) (ih (i + 1) f (by omega) (by omega) hp'))
    exact go n 0 (n + 1) (by omega) (by omega) h'
end
section
variable {g_cellLimit g_callLimit g_closureLimit g_nodes g_holes g_reached : Int32} {b_kinds b_operands b_parents b_s b_p b_rec b_sets b_live b_done b_fn b_val b_entered b_bind : Nat → Int32}
variable {cs n L : Nat} {K P N Lv S O B : Nat → Nat} {t : so_S}
theorem yy_site {post : Int32 → Prop} {m st : Nat} (A : re_A cs n 0 L K P N Lv S O B) (hk : ∀ m, m < n → b_kinds m = nI (K m) ∧ K m ≤ 6) (hpa : ∀ m, 0 < m → m < n → b_parents m = nI (P m)) (hst : 1 ≤ st) (hst2 : st ≤ 2) (hm : m < n) (R : so_R n L t) (X : so_X n L t b_live b_s b_p) (h : post (nI (si_c K (tr_e P n) t m))) : wpY_site post (g_cellLimit, g_callLimit, g_closureLimit, (nI n), g_holes, (nI st), b_kinds, b_operands, b_parents, b_s, b_p, b_rec, b_sets, b_live, b_done, b_fn, b_val, b_entered, b_bind) (nI m) := by
  have hn : n ≤ 48 := by have := A.2.2.1; have := A.2.2.2.1; omega
  have hL : L ≤ 16 := A.2.2.2.2.2.1
  have ms := fun i => so_ms_lt hL (R.2.2.2.1 i)
  obtain ⟨k1, k6⟩ := hk m hm
  have vm : vp_in (nI m) 48 := vp_in_nI (by omega) (by omega)
  have hcm := nI_clamp (n := m) (by omega)
  refine br_f (fun w => by have := (ez_st hst2).1.mp w; omega) (yy_has hn (fun z => ?_) (fun _ _ _ => br_f (by decide) ⟨vm, ?_⟩))
  · rcases z with z | z
    · exact absurd z (nI_pos (by omega))
    · exact absurd z (nI_ge hm (by omega))
  rw [hcm, k1]
  unfold si_c at h
  by_cases k : K m = 3
  · rw [if_pos k] at h
    refine br_t (by rw [k]; rfl) ⟨vm, ?_⟩
    rw [(X.1 m hm).1]
    have h1 := R.1 m
    by_cases z : t.1 m = 0
    · rw [if_pos z] at h
      rw [z]
      refine br_t rfl ⟨vm, ?_⟩
      rw [hcm, k1]
      exact br_t (by rw [k]; rfl) h
    · rw [if_neg z] at h
      obtain ⟨_, F⟩ := re_full A
      obtain ⟨r1, r2⟩ := tr_par1 A.1 F hm (by omega)
      obtain ⟨s0, s1, s2⟩ := tr_par2 A.1 F hm (by omega)
      refine br_f (nI_ne0 (by omega) (by omega)) (yy_kid0 A hpa hm (by omega) ⟨vp_in_nI (by omega) (by omega), ?_⟩)
      rw [nI_clamp (by omega)]
      refine nm_r (X.1 _ r1).2 (yy_kid1 A hpa hm (by omega) ⟨vp_in_nI (by omega) (by omega), ?_⟩)
      rw [nI_clamp (by omega)]
      exact nm_r (X.1 _ s1).2 (si_ask (ms _) (ms _) h)
  · rw [if_neg k] at h
    have n3 : ¬ nI (K m) = 3 := fun w => k ((nI_eq (b := 3) (by omega) (by decide)).mp w)
    refine br_f n3 ⟨vm, ?_⟩
    rw [hcm, k1]
    exact br_f n3 h
theorem yy_form {post : Int32 → Prop} {l st : Nat} (A : re_A cs n 0 L K P N Lv S O B) (hk : ∀ m, m < n → b_kinds m = nI (K m) ∧ K m ≤ 6) (hpa : ∀ m, 0 < m → m < n → b_parents m = nI (P m)) (hst : 1 ≤ st) (hst2 : st ≤ 2) (hl : l < L) (R : so_R n L t) (X : so_X n L t b_live b_s b_p) (h : post (nI (fo_c K (tr_e P n) (re_bd K n) t n l))) : wpY_form post (g_cellLimit, g_callLimit, g_closureLimit, (nI n), g_holes, (nI st), b_kinds, b_operands, b_parents, b_s, b_p, b_rec, b_sets, b_live, b_done, b_fn, b_val, b_entered, b_bind) (nI l) := by
  have hn : n ≤ 48 := by have := A.2.2.1; have := A.2.2.2.1; omega
  have hL : L ≤ 16 := A.2.2.2.2.2.1
  have hLn := A.2.2.2.2.1
  have ms := fun i => so_ms_lt hL (R.2.2.2.1 i)
  obtain ⟨_, F⟩ := re_full A
  unfold wpY_form
  refine yy_lambdaNode hn hk (fun a ha ka ea => ?_) (fun w => ?_)
  · have la := tr_lc_lt ha ka
    have el : l = tr_lc K a := (nI_eq (by omega) (by omega)).mp ea
    have eb : re_bd K n l = a + 1 := by rw [el]; exact re_bd_is a ha ka
    obtain ⟨r1, r2⟩ := tr_par1 A.1 F ha (by omega)
    refine br_f (fun w => by have := (ez_st hst2).1.mp w; omega) (br_t (nI_pos' (by omega)) ?_)
    rw [nI_1]
    refine ⟨vp_in_nI (by omega) (by omega), ?_⟩
    rw [nI_clamp (by omega), (X.1 _ r1).1]
    have h1 := R.1 (a + 1)
    have h' : post (nI (if t.1 (re_bd K n l) = 0 then 0 else fo_l (si_c K (tr_e P n) t) (fun i => (t.2.1 (i + 1)).testBit l) n 0)) := h
    rw [eb] at h'
    by_cases z : t.1 (a + 1) = 0
    · rw [if_pos z] at h'
      rw [z]
      exact br_t rfl h'
    · rw [if_neg z] at h'
      refine br_f (nI_ne0 (by omega) (by omega)) ⟨n + 1, ?_⟩
      have go : ∀ d i f, i + d = n → d < f → post (nI (fo_l (si_c K (tr_e P n) t) (fun i => (t.2.1 (i + 1)).testBit l) d i)) → wY_form_35 post (nI l) g_cellLimit g_callLimit g_closureLimit (nI n) g_holes (nI st) b_kinds b_operands b_parents b_s b_p b_rec b_sets b_live b_done b_fn b_val b_entered b_bind f (nI i) := by
        intro d
        induction d with
        | zero =>
          intro i f hi hf hp
          obtain ⟨f, rfl⟩ : ∃ f', f = f' + 1 := ⟨f - 1, by omega⟩
          have e : i = n := by omega
          subst e
          exact br_t (nI_le (Nat.le_refl _) (by omega)) hp
        | succ d ih =>
          intro i f hi hf hp
          obtain ⟨f, rfl⟩ : ∃ f', f = f' + 1 := ⟨f - 1, by omega⟩
          have hp' : post (nI (if si_c K (tr_e P n) t i = 4 ∧ (t.2.1 (i + 1)).testBit l = true then 2 else fo_l (si_c K (tr_e P n) t) (fun i => (t.2.1 (i + 1)).testBit l) d (i + 1))) := hp
          refine br_f (nI_ge (by omega) (by omega)) (yy_site A hk hpa hst hst2 (by omega) R X ?_)
          have s4 := si_4 K (tr_e P n) t i
          by_cases y : si_c K (tr_e P n) t i = 4
          · have k3 : K i = 3 := by
              by_cases w : K i = 3
              · exact w
              · unfold si_c at y
                rw [if_neg w] at y
                omega
            obtain ⟨u1, u2⟩ := tr_par1 A.1 F (show i < n by omega) (by omega)
            have mi := ms (i + 1)
            refine br_t (by rw [y]; rfl) (yy_kid0 A hpa (by omega) (by omega) ⟨vp_in_nI (by omega) (by omega), ?_⟩)
            rw [nI_clamp (by omega), (X.1 _ u1).2]
            cases w : (t.2.1 (i + 1)).testBit l with
            | false =>
              rw [if_neg (by rw [w]; rintro ⟨_, q⟩; cases q)] at hp'
              exact br_t ((bi_shr (by omega) (by omega)).mpr w) (nm_r (nI_1 i) (ih (i + 1) f (by omega) (by omega) hp'))
            | true =>
              rw [if_pos ⟨y, w⟩] at hp'
              exact br_f (fun q => by rw [(bi_shr (by omega) (by omega)).mp q] at w; cases w) hp'
          · rw [if_neg (fun q => y q.1)] at hp'
            refine br_f (fun q => y ((nI_eq (b := 4) (by omega) (by decide)).mp q)) (nm_r (nI_1 i) (ih (i + 1) f (by omega) (by omega) hp'))
      exact go n 0 (n + 1) (by omega) (by omega) h'
  · obtain ⟨a, a1, a2, a3⟩ := tr_lc_find (K := K) (l := l) n (by omega)
    exact absurd (by rw [a3]) (w a a1 a2)
end
theorem i_vc_site {k : Nat} {u : SX} {v : SY} (I : i_Rel k u v) (hk : k + 3 ≤ 1539) (v1 : Int32) : wpX_site (fun r => wpY_site (fun r' => r' = r ∧ i_Rel (k + 3) u v) v v1) u v1 := by
  refine i_el (G := fun u v => wpX_site (fun r => wpY_site (fun r' => r' = r ∧ i_Rel (k + 3) u v) v v1) u v1) I ?_
  intro cs cl cm n h L st cn K P N Lv S O B oc nd tg bs en dn et bi f_grown f_runningEngine f_ending f_callCount f_closureCount f_frame f_waitingCount a_kinds a_operands a_parents a_places a_children a_levels a_nests a_scopes a_nodeLambdas a_lambdaNodes a_liveNodes a_nodeFlows a_paramFlows a_entries a_frameReturns a_closureLambdas a_records a_calledSets a_closureValues a_frameValues a_waiting b_s b_p b_live b_fn b_val hI I0
  obtain ⟨A, X, l1, l2, m1, m2, s, S1, S2⟩ := hI
  obtain ⟨hn, hh, hL⟩ := ez_48 A
  unfold wpX_site
  refine xx_isSolvedNode hn s (fun z => ?_) (fun j h1 hj e => ?_)
  · refine br_t rfl ?_
    rcases z with z | ⟨z, y⟩
    · exact br_t ((ez_st s).1.mpr z) ⟨rfl, I0⟩
    · refine br_f (fun w => by have := (ez_st s).1.mp w; omega) (yy_has hn (fun _ => br_t rfl ⟨rfl, I0⟩) (fun j hj e => ?_))
      subst e
      rcases y with y | y
      · exact absurd y (nI_pos (by omega))
      · exact absurd y (nI_ge hj (by omega))
  · refine br_f (by decide) ?_
    subst e
    obtain ⟨h0, a1, a2⟩ := S1 h1
    subst h0
    have R := so_sol_R (re_so_T A (re_bd_is (K := K) (n := n))) (re_full A).1
    exact xx_siteOf A X hj R a1 (yy_site A (ez_kd A X) X.2.2.2.1 h1 s hj R a2 ⟨rfl, I0⟩)
theorem i_vc_form {k : Nat} {u : SX} {v : SY} (I : i_Rel k u v) (hk : k + 3 ≤ 1539) (v1 : Int32) : wpX_form (fun r => wpY_form (fun r' => r' = r ∧ i_Rel (k + 3) u v) v v1) u v1 := by
  refine i_el (G := fun u v => wpX_form (fun r => wpY_form (fun r' => r' = r ∧ i_Rel (k + 3) u v) v v1) u v1) I ?_
  intro cs cl cm n h L st cn K P N Lv S O B oc nd tg bs en dn et bi f_grown f_runningEngine f_ending f_callCount f_closureCount f_frame f_waitingCount a_kinds a_operands a_parents a_places a_children a_levels a_nests a_scopes a_nodeLambdas a_lambdaNodes a_liveNodes a_nodeFlows a_paramFlows a_entries a_frameReturns a_closureLambdas a_records a_calledSets a_closureValues a_frameValues a_waiting b_s b_p b_live b_fn b_val hI I0
  obtain ⟨A, X, l1, l2, m1, m2, s, S1, S2⟩ := hI
  obtain ⟨hn, hh, hL⟩ := ez_48 A
  have hLn := A.2.2.2.2.1
  unfold wpX_form
  refine xx_isSolvedLambda hL s (fun z => ?_) (fun j h1 hj e => ?_)
  · refine br_t rfl ?_
    rcases z with z | ⟨z, y⟩
    · have q := (ez_st s).1.mpr z
      unfold wpY_form
      exact yy_lambdaNode hn (ez_kd A X) (fun m hm km e => br_t q ⟨rfl, I0⟩) (fun _ => br_t q ⟨rfl, I0⟩)
    · have q : ¬ nI st < 1 := fun w => by have := (ez_st s).1.mp w; omega
      unfold wpY_form
      refine yy_lambdaNode hn (ez_kd A X) (fun m hm km e => ?_) (fun _ => br_f q (br_f (by decide) ⟨rfl, I0⟩))
      subst e
      have := tr_lc_lt hm km
      rcases y with y | y
      · exact absurd y (nI_pos (by omega))
      · exact absurd y (nI_ge (by omega) (by omega))
  · refine br_f (by decide) ?_
    subst e
    obtain ⟨h0, a1, a2⟩ := S1 h1
    subst h0
    have R := so_sol_R (re_so_T A (re_bd_is (K := K) (n := n))) (re_full A).1
    exact xx_formOf A X hj R a1 (yy_form A (ez_kd A X) X.2.2.2.1 h1 s hj R a2 ⟨rfl, I0⟩)
