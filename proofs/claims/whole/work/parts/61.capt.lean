/-! ===== captures ===== -/
def ca_m (q : Nat → Bool) (B : Nat → Nat) : Nat → Nat
  | 0 => 0
  | i + 1 => if q i = true then ca_m q B i ||| 2 ^ B i else ca_m q B i
theorem ca_p (b s : Nat) : 2 ^ b &&& s = if s.testBit b = true then 2 ^ b else 0 := by
  apply Nat.eq_of_testBit_eq
  intro i
  rw [Nat.testBit_and, Nat.testBit_two_pow]
  by_cases e : b = i
  · subst e
    rw [decide_eq_true rfl, Bool.true_and]
    cases w : s.testBit b with
    | true => rw [if_pos rfl, Nat.testBit_two_pow_self]
    | false => rw [if_neg (by decide), Nat.zero_testBit]
  · rw [decide_eq_false e, Bool.false_and]
    cases w : s.testBit b with
    | true => rw [if_pos rfl, Nat.testBit_two_pow, decide_eq_false e]
    | false => rw [if_neg (by decide), Nat.zero_testBit]
theorem ca_and (q : Nat → Bool) (B : Nat → Nat) (s : Nat) : ∀ i, ca_m q B i &&& s = ca_m (fun i => q i && s.testBit (B i)) B i := by
  intro i
  induction i with
  | zero => exact Nat.zero_and s
  | succ i ih =>
    show (if q i = true then ca_m q B i ||| 2 ^ B i else ca_m q B i) &&& s = (if (q i && s.testBit (B i)) = true then ca_m (fun i => q i && s.testBit (B i)) B i ||| 2 ^ B i else ca_m (fun i => q i && s.testBit (B i)) B i)
    cases h : q i with
    | false => rw [if_neg (by decide), Bool.false_and, if_neg (by decide), ih]
    | true =>
      rw [if_pos rfl, Bool.true_and, Nat.and_or_distrib_right, ih, ca_p]
      cases w : s.testBit (B i) with
      | true => rw [if_pos rfl, if_pos rfl]
      | false => rw [if_neg (by decide), if_neg (by decide), Nat.or_zero]
theorem ca_0 {q : Nat → Bool} {B : Nat → Nat} : ∀ i, (∀ j, j < i → q j = false) → ca_m q B i = 0 := by
  intro i
  induction i with
  | zero => intro _; rfl
  | succ i ih =>
    intro h
    show (if q i = true then ca_m q B i ||| 2 ^ B i else ca_m q B i) = 0
    rw [h i (by omega), if_neg (by decide)]
    exact ih (fun j hj => h j (by omega))
def ca_q (K S : Nat → Nat) (t : so_S) (l i : Nat) : Bool := decide (K i = 0) && decide (t.1 i = 1) && (S i).testBit l
section
variable {f_cellLimit f_callLimit f_closureLimit f_nodes f_holes f_lambdas f_stageReached f_grown f_codeLength f_runningEngine f_ending f_callCount f_closureCount f_frame f_waitingCount : Int32} {a_kinds a_operands a_parents a_places a_children a_levels a_nests a_scopes a_nodeLambdas a_lambdaNodes a_liveNodes a_nodeFlows a_paramFlows a_codeOps a_codeNodes a_codeTargets a_branchSpots a_entries a_frameReturns a_closureLambdas a_records a_calledSets : Nat → Int32} {a_closureValues a_frameValues a_waiting : Nat → Int64}
variable {cs n L : Nat} {K P N Lv S O B : Nat → Nat} {t : so_S}
theorem xx_capt {post : Int32 → Prop} {l s : Nat} (A : re_A cs n 0 L K P N Lv S O B) (XT : re_X n K P N Lv S O B a_kinds a_operands a_parents a_places a_children a_levels a_nests a_scopes a_nodeLambdas a_lambdaNodes) (hl : l < L) (h01 : so_01 t) (X : so_X n L t a_liveNodes a_nodeFlows a_paramFlows) (h : post (nI (ca_m (ca_q K S t l) B n &&& s))) : ∃ f, wX_captures_27 post (nI l) (nI s) f_cellLimit f_callLimit f_closureLimit (nI n) f_holes f_lambdas f_stageReached f_grown f_codeLength f_runningEngine f_ending f_callCount f_closureCount f_frame f_waitingCount a_kinds a_operands a_parents a_places a_children a_levels a_nests a_scopes a_nodeLambdas a_lambdaNodes a_liveNodes a_nodeFlows a_paramFlows a_codeOps a_codeNodes a_codeTargets a_branchSpots a_entries a_frameReturns a_frameValues a_closureLambdas a_closureValues a_waiting a_records a_calledSets f (nI 0) (nI 0) := by
  have hn : n ≤ 48 := by have := A.2.2.1; have := A.2.2.2.1; omega
  have hL : L ≤ 16 := A.2.2.2.2.2.1
  have hLn := A.2.2.2.2.1
  have D := A.2.2.2.2.2.2.2.2.2.1
  have go : ∀ d i f, i + d = n → d < f → wX_captures_27 post (nI l) (nI s) f_cellLimit f_callLimit f_closureLimit (nI n) f_holes f_lambdas f_stageReached f_grown f_codeLength f_runningEngine f_ending f_callCount f_closureCount f_frame f_waitingCount a_kinds a_operands a_parents a_places a_children a_levels a_nests a_scopes a_nodeLambdas a_lambdaNodes a_liveNodes a_nodeFlows a_paramFlows a_codeOps a_codeNodes a_codeTargets a_branchSpots a_entries a_frameReturns a_frameValues a_closureLambdas a_closureValues a_waiting a_records a_calledSets f (nI (ca_m (ca_q K S t l) B i)) (nI i) := by
    intro d
    induction d with
    | zero =>
      intro i f hi hf
      obtain ⟨f, rfl⟩ : ∃ f', f = f' + 1 := ⟨f - 1, by omega⟩
      have e : i = n := by omega
      subst e
      refine br_t (nI_le (Nat.le_refl _) (by omega)) ?_
      rw [bi_and]
      exact h
    | succ d ih =>
      intro i f hi hf
      obtain ⟨f, rfl⟩ : ∃ f', f = f' + 1 := ⟨f - 1, by omega⟩
      have hin : i < n := by omega
      have nx := ih (i + 1) f (by omega) (by omega)
      have nx' : wX_captures_27 post (nI l) (nI s) f_cellLimit f_callLimit f_closureLimit (nI n) f_holes f_lambdas f_stageReached f_grown f_codeLength f_runningEngine f_ending f_callCount f_closureCount f_frame f_waitingCount a_kinds a_operands a_parents a_places a_children a_levels a_nests a_scopes a_nodeLambdas a_lambdaNodes a_liveNodes a_nodeFlows a_paramFlows a_codeOps a_codeNodes a_codeTargets a_branchSpots a_entries a_frameReturns a_frameValues a_closureLambdas a_closureValues a_waiting a_records a_calledSets f (nI (if ca_q K S t l i = true then ca_m (ca_q K S t l) B i ||| 2 ^ B i else ca_m (ca_q K S t l) B i)) (nI (i + 1)) := nx
      have v : vp_in (nI i) 48 := vp_in_nI (by omega) (by omega)
      have hc := nI_clamp (n := i) (by omega)
      obtain ⟨d1, d2, d3, d4, d5⟩ := D i hin
      refine br_f (nI_ge (by omega) (by omega)) ⟨v, ?_⟩
      rw [hc, (XT.2.2.2.2.2.2.1 i hin).2.2]
      cases z : (S i).testBit l with
      | false =>
        have e : ca_q K S t l i = false := by unfold ca_q; rw [z, Bool.and_false]
        rw [e, if_neg (by decide)] at nx'
        exact br_t ((bi_test (by omega) (by omega)).mpr z) (br_t rfl (nm_r (nI_1 i) nx'))
      | true =>
        refine br_f (fun w => by rw [(bi_test (by omega) (by omega)).mp w] at z; cases z) (br_f (by decide) ⟨v, ?_⟩)
        rw [hc, XT.1 i hin]
        by_cases k : K i = 0
        · refine br_t (by rw [k]; rfl) ⟨v, ?_⟩
          rw [(X.1 i hin).1]
          have h1 := h01 i
          by_cases w : t.1 i = 1
          · have e : ca_q K S t l i = true := by unfold ca_q; rw [z, decide_eq_true k, decide_eq_true w]; rfl
            rw [e, if_pos rfl] at nx'
            have hB : B i < L := by
              obtain ⟨a1, b, b1, b2, b3, b4, b5⟩ := A.2.2.2.2.2.2.2.2.2.2 i hin k
              rw [b4, hLn]
              exact tr_lc_lt (by omega) b2
            refine br_f (nI_ne0 (by omega) (by omega)) ⟨v, ?_⟩
            rw [(XT.2.2.2.2.2.2.2.1 i hin).1 k, bi_shl _ (by omega), bi_or]
            exact nm_e (nm_r (nI_1 i) nx')
          · have w0 : t.1 i = 0 := by omega
            have e : ca_q K S t l i = false := by unfold ca_q; rw [decide_eq_false w, Bool.and_false, Bool.false_and]
            rw [e, if_neg (by decide)] at nx'
            exact br_t (by rw [w0]; rfl) (nm_r (nI_1 i) nx')
        · have e : ca_q K S t l i = false := by unfold ca_q; rw [decide_eq_false k, Bool.false_and, Bool.false_and]
          rw [e, if_neg (by decide)] at nx'
          exact br_f (fun w => k ((nI_eq (b := 0) (by omega) (by decide)).mp w)) (nm_r (nI_1 i) nx')
  exact ⟨n + 1, go n 0 (n + 1) (by omega) (by omega)⟩
end
section
variable {g_cellLimit g_callLimit g_closureLimit g_nodes g_holes g_reached : Int32} {b_kinds b_operands b_parents b_s b_p b_rec b_sets b_live b_done b_fn b_val b_entered b_bind : Nat → Int32}
variable {cs n h L : Nat} {K P N Lv S O B : Nat → Nat} {t : so_S}
theorem yy_capt {post : Int32 → Prop} {z : Nat} (A : re_A cs n h L K P N Lv S O B) (hk : ∀ m, m < n → b_kinds m = nI (K m) ∧ K m ≤ 6) (hpa : ∀ m, 0 < m → m < n → b_parents m = nI (P m)) (hp0 : 0 < n → b_parents 0 = -1) (hod : ∀ m, m < n → K m = 0 → b_operands m = nI (O m)) (hz : z < n) (kz : K z = 2) (h01 : so_01 t) (X : so_X n L t b_live b_s b_p) (hpost : post (nI (ca_m (fun i => ca_q K S t (tr_lc K z) i && (S z).testBit (B i)) B n))) : ∃ f, wY_captures_27 post (nI z) g_cellLimit g_callLimit g_closureLimit (nI n) g_holes g_reached b_kinds b_operands b_parents b_s b_p b_rec b_sets b_live b_done b_fn b_val b_entered b_bind f (nI 0) (nI (z + 1)) := by
  have hn : n ≤ 48 := by have := A.2.2.1; have := A.2.2.2.1; omega
  have hL : L ≤ 16 := A.2.2.2.2.2.1
  have hLn := A.2.2.2.2.1
  have self : (S z).testBit (tr_lc K z) = false := by
    cases e : (S z).testBit (tr_lc K z) with
    | false => rfl
    | true => exact absurd (re_anc_lt A hz kz e) (Nat.lt_irrefl z)
  -- above z nothing is added
  have in1 : ∀ {J : Int32 → Int32 → Prop} {x4 x3 : Int32}, J x3 (x4 + 1) → ∀ f a i, a + 1 < f → i + a < n → a ≠ z → (S a).testBit (tr_lc K z) = false → wY_captures_48 post J (nI z) x4 g_cellLimit g_callLimit g_closureLimit (nI n) g_holes g_reached b_kinds b_operands b_parents b_s b_p b_rec b_sets b_live b_done b_fn b_val b_entered b_bind f x3 (nI i) (nI a) := by
    intro J x4 x3 hJ f
    induction f with
    | zero => intro a i hf; omega
    | succ f ih =>
      intro a i hf hi ne hs
      refine br_f (nI_ge (by omega) (by omega)) (br_f (nI_pos (by omega)) (br_f (fun w => ne ((nI_eq (by omega) (by omega)).mp w)) (nm_r (nI_1 i) ⟨vp_in_nI (by omega) (by omega), ?_⟩)))
      rw [nI_clamp (by omega)]
      by_cases w : a = 0
      · subst w
        obtain ⟨f, rfl⟩ : ∃ f', f = f' + 1 := ⟨f - 1, by omega⟩
        refine nm_r (hp0 (by omega)) ?_
        by_cases y : n ≤ i + 1
        · exact br_t (nI_le y (by omega)) (nm_e hJ)
        · exact br_f (nI_ge (by omega) (by omega)) (br_t (by decide) (nm_e hJ))
      · have a0 : 0 < a := by omega
        have hP := (A.1 a a0 (by omega)).1
        refine nm_r (hpa a a0 (by omega)) (ih (P a) (i + 1) (by omega) (by omega) (fun e => ?_) ?_)
        · have := (re_anc A (a := a) (show a < n by omega) kz).mpr ⟨a0, Or.inl e⟩
          rw [hs] at this; cases this
        · cases e : (S (P a)).testBit (tr_lc K z) with
          | false => rfl
          | true =>
            have := (re_anc A (a := a) (show a < n by omega) kz).mpr ⟨a0, Or.inr e⟩
            rw [hs] at this; cases this
  -- from below z
  have in2 : ∀ {J : Int32 → Int32 → Prop} (v M : Nat), v < n → (S v).testBit (tr_lc K z) = true → J (nI (if (ca_q K S t (tr_lc K z) v && (S z).testBit (B v)) = true then M ||| 2 ^ B v else M)) (nI v + 1) → ∀ f a i, a + 1 < f → i + a < n → a < n → (a = z ∨ (S a).testBit (tr_lc K z) = true) → wY_captures_48 post J (nI z) (nI v) g_cellLimit g_callLimit g_closureLimit (nI n) g_holes g_reached b_kinds b_operands b_parents b_s b_p b_rec b_sets b_live b_done b_fn b_val b_entered b_bind f (nI M) (nI i) (nI a) := by
    intro J v M hv sv hJ f
    induction f with
    | zero => intro a i hf; omega
    | succ f ih =>
      intro a i hf hi ha hat
      have vv : vp_in (nI v) 48 := vp_in_nI (by omega) (by omega)
      have hcv := nI_clamp (n := v) (by omega)
      refine br_f (nI_ge (by omega) (by omega)) (br_f (nI_pos (by omega)) ?_)
      by_cases e : a = z
      · -- here it is
        subst e
        -- the rest of the way up
        have rest : ∀ x3 : Int32, J x3 (nI v + 1) → (∀ y : Int32, y = b_parents a → wY_captures_48 post J (nI a) (nI v) g_cellLimit g_callLimit g_closureLimit (nI n) g_holes g_reached b_kinds b_operands b_parents b_s b_p b_rec b_sets b_live b_done b_fn b_val b_entered b_bind f x3 (nI (i + 1)) y) := fun x3 hJ3 => by
          by_cases w : a = 0
          · subst w
            obtain ⟨f, rfl⟩ : ∃ f', f = f' + 1 := ⟨f - 1, by omega⟩
            refine nm_r (hp0 (by omega)) ?_
            by_cases y : n ≤ i + 1
            · exact br_t (nI_le y (by omega)) (nm_e hJ3)
            · exact br_f (nI_ge (by omega) (by omega)) (br_t (by decide) (nm_e hJ3))
          · have a0 : 0 < a := by omega
            have hP := (A.1 a a0 (by omega)).1
            refine nm_r (hpa a a0 (by omega)) (in1 hJ3 f (P a) (i + 1) (by omega) (by omega) (by omega) ?_)
            cases e : (S (P a)).testBit (tr_lc K a) with
            | false => rfl
            | true =>
              have := (re_anc A (a := a) ha kz).mpr ⟨a0, Or.inr e⟩
              rw [self] at this; cases this
        have va : vp_in (nI a) 48 := vp_in_nI (by omega) (by omega)
        have hca := nI_clamp (n := a) (by omega)
        refine br_t rfl ⟨vv, ?_⟩
        rw [hcv, (hk v hv).1, hca]
        have k6 := (hk v hv).2
        by_cases k : K v = 0
        · refine br_t (by rw [k]; rfl) ⟨vv, ?_⟩
          rw [(X.1 v hv).1]
          have h1 := h01 v
          by_cases w : t.1 v = 1
          · have eq : ca_q K S t (tr_lc K a) v = true := by unfold ca_q; rw [sv, decide_eq_true k, decide_eq_true w]; rfl
            rw [eq, Bool.true_and] at hJ
            refine br_f (nI_ne0 (by omega) (by omega)) (yy_binder A hk hpa hv k (hod v hv k) (fun b b1 b2 b3 b4 => ?_))
            have cap := re_cap A hv kz b2 sv b4
            rw [b3] at cap
            have hB : B v < 16 := by rw [← b3]; have := tr_lc_lt (show b < n by omega) b2; omega
            by_cases y : b < a
            · rw [if_pos (cap.mp y)] at hJ
              refine br_f (nI_ge y (by omega)) (yy_look A hk hpa hod hv (fun e => absurd e (by decide)) (fun e => absurd e (by decide)) (fun e => absurd e (by decide)) (fun _ => ⟨fun _ => ?_, fun q => by omega, fun q => absurd k q⟩) (fun e => by rcases e with e | e <;> exact absurd e (by decide)))
              rw [bi_shl _ (by omega), bi_or]
              exact nm_e (nm_r (nI_1 i) ⟨va, rest _ hJ⟩)
            · have nb : ¬ (S a).testBit (B v) = true := fun q => y (cap.mpr q)
              rw [if_neg nb] at hJ
              exact br_t (nI_le (by omega) (by omega)) (nm_r (nI_1 i) ⟨va, rest _ hJ⟩)
          · have w0 : t.1 v = 0 := by omega
            have eq : ca_q K S t (tr_lc K a) v = false := by unfold ca_q; rw [decide_eq_false w, Bool.and_false, Bool.false_and]
            rw [eq, Bool.false_and, if_neg (by decide)] at hJ
            exact br_t (by rw [w0]; rfl) (nm_r (nI_1 i) ⟨va, rest _ hJ⟩)
        · have eq : ca_q K S t (tr_lc K a) v = false := by unfold ca_q; rw [decide_eq_false k, Bool.false_and, Bool.false_and]
          rw [eq, Bool.false_and, if_neg (by decide)] at hJ
          exact br_f (fun w => k ((nI_eq (b := 0) (by omega) (by decide)).mp w)) (nm_r (nI_1 i) ⟨va, rest _ hJ⟩)
      · have hs : (S a).testBit (tr_lc K z) = true := hat.resolve_left e
        obtain ⟨a0, nx⟩ := (re_anc A (a := a) ha kz).mp hs
        have hP := (A.1 a a0 ha).1
        refine br_f (fun w => e ((nI_eq (by omega) (by omega)).mp w)) (nm_r (nI_1 i) ⟨vp_in_nI (by omega) (by omega), ?_⟩)
        rw [nI_clamp (by omega)]
        exact nm_r (hpa a a0 ha) (ih (P a) (i + 1) (by omega) (by omega) (by omega) nx)
  have go : ∀ d v f, v + d = n → d < f → z < v → wY_captures_27 post (nI z) g_cellLimit g_callLimit g_closureLimit (nI n) g_holes g_reached b_kinds b_operands b_parents b_s b_p b_rec b_sets b_live b_done b_fn b_val b_entered b_bind f (nI (ca_m (fun i => ca_q K S t (tr_lc K z) i && (S z).testBit (B i)) B v)) (nI v) := by
    intro d
    induction d with
    | zero =>
      intro v f hv hf hzv
      obtain ⟨f, rfl⟩ : ∃ f', f = f' + 1 := ⟨f - 1, by omega⟩
      have e : v = n := by omega
      subst e
      exact br_t (nI_le (Nat.le_refl _) (by omega)) hpost
    | succ d ih =>
      intro v f hv hf hzv
      obtain ⟨f, rfl⟩ : ∃ f', f = f' + 1 := ⟨f - 1, by omega⟩
      have nx := ih (v + 1) f (by omega) (by omega) (by omega)
      have nx' : wY_captures_27 post (nI z) g_cellLimit g_callLimit g_closureLimit (nI n) g_holes g_reached b_kinds b_operands b_parents b_s b_p b_rec b_sets b_live b_done b_fn b_val b_entered b_bind f (nI (if (ca_q K S t (tr_lc K z) v && (S z).testBit (B v)) = true then ca_m (fun i => ca_q K S t (tr_lc K z) i && (S z).testBit (B i)) B v ||| 2 ^ B v else ca_m (fun i => ca_q K S t (tr_lc K z) i && (S z).testBit (B i)) B v)) (nI (v + 1)) := nx
      have v0 : 0 < v := by omega
      have hP := (A.1 v v0 (by omega)).1
      refine br_f (nI_ge (by omega) (by omega)) ⟨vp_in_nI (by omega) (by omega), ?_⟩
      rw [nI_clamp (by omega)]
      refine nm_r (hpa v v0 (by omega)) ⟨n + 1, ?_⟩
      rw [← nI_1 v] at nx'
      cases sv : (S v).testBit (tr_lc K z) with
      | true =>
        have at' := ((re_anc A (a := v) (show v < n by omega) kz).mp sv).2
        exact in2 v _ (by omega) sv nx' (n + 1) (P v) 0 (by omega) (by omega) (by omega) at'
      | false =>
        have eq : ca_q K S t (tr_lc K z) v = false := by unfold ca_q; rw [sv, Bool.and_false]
        rw [eq, Bool.false_and, if_neg (by decide)] at nx'
        refine in1 nx' (n + 1) (P v) 0 (by omega) (by omega) (fun e => ?_) ?_
        · have := (re_anc A (a := v) (show v < n by omega) kz).mpr ⟨v0, Or.inl e⟩
          rw [sv] at this; cases this
        · cases e : (S (P v)).testBit (tr_lc K z) with
          | false => rfl
          | true =>
            have := (re_anc A (a := v) (show v < n by omega) kz).mpr ⟨v0, Or.inr e⟩
            rw [sv] at this; cases this
  refine ⟨n + 1, ?_⟩
  have e0 := ca_0 (q := fun i => ca_q K S t (tr_lc K z) i && (S z).testBit (B i)) (B := B) (z + 1) (fun j hj => by
    have : (S j).testBit (tr_lc K z) = false := by
      cases e : (S j).testBit (tr_lc K z) with
      | false => rfl
      | true => have := re_anc_lt A (show j < n by omega) kz e; omega
    show (ca_q K S t (tr_lc K z) j && (S z).testBit (B j)) = false
    unfold ca_q
    rw [this, Bool.and_false, Bool.false_and])
  have g := go (n - (z + 1)) (z + 1) (n + 1) (by omega) (by omega) (by omega)
  rw [e0] at g
  exact g
end
theorem i_vc_captures {k : Nat} {u : SX} {v : SY} (I : i_Rel k u v) (hk : k + 3 ≤ 1539) (v1 : Int32) : wpX_captures (fun r => wpY_captures (fun r' => r' = r ∧ i_Rel (k + 3) u v) v v1) u v1 := by
  refine i_el (G := fun u v => wpX_captures (fun r => wpY_captures (fun r' => r' = r ∧ i_Rel (k + 3) u v) v v1) u v1) I ?_
  intro cs cl cm n h L st cn K P N Lv S O B oc nd tg bs en dn et bi f_grown f_runningEngine f_ending f_callCount f_closureCount f_frame f_waitingCount a_kinds a_operands a_parents a_places a_children a_levels a_nests a_scopes a_nodeLambdas a_lambdaNodes a_liveNodes a_nodeFlows a_paramFlows a_entries a_frameReturns a_closureLambdas a_records a_calledSets a_closureValues a_frameValues a_waiting b_s b_p b_live b_fn b_val hI I0
  obtain ⟨A, X, l1, l2, m1, m2, s, S1, S2⟩ := hI
  obtain ⟨hn, hh, hL⟩ := ez_48 A
  have hLn := A.2.2.2.2.1
  unfold wpX_captures
  refine xx_isSolvedLambda hL s (fun z => ?_) (fun j h1 hj e => ?_)
  · refine br_t rfl ?_
    unfold wpY_captures
    rcases z with z | ⟨z, y⟩
    · have q := (ez_st s).1.mpr z
      exact yy_lambdaNode hn (ez_kd A X) (fun m hm km e => br_t q ⟨rfl, I0⟩) (fun _ => br_t q ⟨rfl, I0⟩)
    · have q : ¬ nI st < 1 := fun w => by have := (ez_st s).1.mp w; omega
      refine yy_lambdaNode hn (ez_kd A X) (fun m hm km e => ?_) (fun _ => br_f q (br_f (by decide) ⟨rfl, I0⟩))
      subst e
      have := tr_lc_lt hm km
      rcases y with y | y
      · exact absurd y (nI_pos (by omega))
      · exact absurd y (nI_ge (by omega) (by omega))
  · refine br_f (by decide) ?_
    subst e
    obtain ⟨h0, a1, a2⟩ := S1 h1
    subst h0
    have R := so_sol_R (re_so_T A (re_bd_is (K := K) (n := n))) (re_full A).1
    obtain ⟨q1, q2, q3⟩ := tr_ln_of (K := K) (n := n) (l := j) (by omega)
    have e := X.2.2.2.2.2.2.2.2 _ q1 q2
    rw [q3] at e
    refine ⟨vp_in_nI (by omega) (by omega), ?_⟩
    rw [nI_clamp (by omega), e, nI_clamp (by omega)]
    refine ⟨vp_in_nI (by omega) (by omega), nm_r (X.2.2.2.2.2.2.1 _ q1).2.2 ?_⟩
    refine xx_capt A X hj R.1 a1 ?_
    unfold wpY_captures
    have q : ¬ nI st < 1 := fun w => by have := (ez_st s).1.mp w; omega
    refine yy_lambdaNode hn (ez_kd A X) (fun m hm km e => ?_) (fun w => ?_)
    · have lm := tr_lc_lt hm km
      have el : j = tr_lc K m := (nI_eq (by omega) (by omega)).mp e
      have em : tr_ln K n j = m := by rw [el]; exact tr_ln_is km n hm
      refine br_f q (br_t (nI_pos' (by omega)) (nm_r (nI_1 m) ?_))
      refine yy_capt A (ez_kd A X) X.2.2.2.1 X.2.2.1 X.2.1 hm km R.1 a2 ⟨?_, I0⟩
      rw [ca_and, em, el]
    · obtain ⟨m, p1, p2, p3⟩ := tr_lc_find (K := K) (l := j) n (by omega)
      exact absurd (by rw [p3]) (w m p1 p2)
