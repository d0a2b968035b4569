/-! ===== the relation ===== -/
def re_sol (K P B : Nat → Nat) (n L : Nat) : so_S := so_sol K (tr_e P n) B (tr_lc K) (re_bd K n) L n
def re_I (cs cl cm n h L st cn : Nat) (K P N Lv S O B oc nd tg en : Nat → Nat) (a_kinds a_operands a_parents a_places a_children a_levels a_nests a_scopes a_nodeLambdas a_lambdaNodes a_liveNodes a_nodeFlows a_paramFlows a_entries b_s b_p b_live : Nat → Int32) : Prop :=
  re_A cs n h L K P N Lv S O B ∧ re_X n K P N Lv S O B a_kinds a_operands a_parents a_places a_children a_levels a_nests a_scopes a_nodeLambdas a_lambdaNodes ∧ 4 ≤ cl ∧ cl ≤ 48 ∧ 4 ≤ cm ∧ cm ≤ 64 ∧ st ≤ 2 ∧
  (1 ≤ st → h = 0 ∧ so_X n L (re_sol K P B n L) a_liveNodes a_nodeFlows a_paramFlows ∧ so_X n L (re_sol K P B n L) b_live b_s b_p) ∧
  (st = 2 → cn ≤ 113 ∧ cp_I K (tr_e P n) N oc nd tg en (re_sol K P B n L) n L cn ∧ (∀ x, x < cn → oc x = 6 → ∀ l, l < L → (re_sol K P B n L).2.1 (nd x + 1) = 2 ^ l → tg x = en l) ∧ ∀ l, l < L → a_entries l = nI (en l))
def i_Rel (_k : Nat) (u : SX) (v : SY) : Prop := ∃ (cs cl cm n h L st cn : Nat) (K P N Lv S O B oc nd tg bs en dn et bi : Nat → Nat) (f_grown f_runningEngine f_ending f_callCount f_closureCount f_frame f_waitingCount : Int32) (a_kinds a_operands a_parents a_places a_children a_levels a_nests a_scopes a_nodeLambdas a_lambdaNodes a_liveNodes a_nodeFlows a_paramFlows a_entries a_frameReturns a_closureLambdas a_records a_calledSets : Nat → Int32) (a_closureValues a_frameValues a_waiting : Nat → Int64) (b_s b_p b_live b_fn b_val : Nat → Int32), u = ((nI cs), (nI cl), (nI cm), (nI n), (nI h), (nI L), (nI st), f_grown, (nI cn), f_runningEngine, f_ending, f_callCount, f_closureCount, f_frame, f_waitingCount, a_kinds, a_operands, a_parents, a_places, a_children, a_levels, a_nests, a_scopes, a_nodeLambdas, a_lambdaNodes, a_liveNodes, a_nodeFlows, a_paramFlows, (rn_F oc), (rn_F nd), (rn_F tg), (rn_F bs), a_entries, a_frameReturns, a_frameValues, a_closureLambdas, a_closureValues, a_waiting, a_records, a_calledSets) ∧ v = ((nI cs), (nI cl), (nI cm), (nI n), (nI h), (nI st), a_kinds, a_operands, a_parents, b_s, b_p, a_records, a_calledSets, b_live, (rn_F dn), b_fn, b_val, (rn_F et), (rn_F bi)) ∧ re_I cs cl cm n h L st cn K P N Lv S O B oc nd tg en a_kinds a_operands a_parents a_places a_children a_levels a_nests a_scopes a_nodeLambdas a_lambdaNodes a_liveNodes a_nodeFlows a_paramFlows a_entries b_s b_p b_live
theorem i_up {k : Nat} {u : SX} {v : SY} (h : i_Rel k u v) : i_Rel (k + 3) u v := h
/-! the constructors -/
theorem cl_ex (x : Int32) (lo hi : Nat) (h : lo ≤ hi) (hh : hi < 2 ^ 31) : ∃ c, lo ≤ c ∧ c ≤ hi ∧ ((nI lo ≤ x ∧ x ≤ nI hi ∧ x = nI c) ∨ (nI lo ≤ x ∧ ¬ x ≤ nI hi ∧ c = hi) ∨ (¬ nI lo ≤ x ∧ c = lo)) := by
  by_cases a : nI lo ≤ x
  · by_cases b : x ≤ nI hi
    · have h0 : ¬ x < 0 := fun w => by
        have h1 := Int32.lt_of_le_of_lt a w
        exact nI_pos (by omega) h1
      obtain ⟨j, j1, rfl⟩ := nI_of h0
      have a' := (nI_leI (by omega) j1).mp a
      have b' := (nI_leI j1 hh).mp b
      exact ⟨j, a', b', Or.inl ⟨a, b, rfl⟩⟩
    · exact ⟨hi, h, Nat.le_refl _, Or.inr (Or.inl ⟨a, b, rfl⟩)⟩
  · exact ⟨lo, Nat.le_refl _, h, Or.inr (Or.inr ⟨a, rfl⟩)⟩
theorem cl_x {post : Int32 → Prop} {x : Int32} {lo hi c : Nat} (h : (nI lo ≤ x ∧ x ≤ nI hi ∧ x = nI c) ∨ (nI lo ≤ x ∧ ¬ x ≤ nI hi ∧ c = hi) ∨ (¬ nI lo ≤ x ∧ c = lo)) (hp : post (nI c)) : wpX_clamp post x (nI lo) (nI hi) := by
  rcases h with ⟨a, b, e⟩ | ⟨a, b, e⟩ | ⟨a, e⟩
  · exact br_t a (br_t b (by rw [e]; exact hp))
  · subst e; exact br_t a (br_f b hp)
  · subst e; exact br_f a hp
theorem cl_y {A : Int32 → Prop} {x : Int32} {lo hi c : Nat} (h : (nI lo ≤ x ∧ x ≤ nI hi ∧ x = nI c) ∨ (nI lo ≤ x ∧ ¬ x ≤ nI hi ∧ c = hi) ∨ (¬ nI lo ≤ x ∧ c = lo)) (hp : A (nI c)) : (nI lo ≤ x → ((x ≤ nI hi → A x) ∧ (¬ x ≤ nI hi → A (nI hi)))) ∧ (¬ nI lo ≤ x → A (nI lo)) := by
  rcases h with ⟨a, b, e⟩ | ⟨a, b, e⟩ | ⟨a, e⟩
  · exact br_t a (br_t b (by rw [e]; exact hp))
  · subst e; exact br_t a (br_f b hp)
  · subst e; exact br_f a hp
theorem i_vc0 (k0 : Int32) (k1 : Int32) (k2 : Int32) : wpX_init (fun u => wpY_init (fun v => i_Rel 3 u v) k0 k1 k2) k0 k1 k2 := by
  obtain ⟨cs, s1, s2, hs⟩ := cl_ex k0 8 48 (by decide) (by decide)
  obtain ⟨cl, l1, l2, hl⟩ := cl_ex k1 4 48 (by decide) (by decide)
  obtain ⟨cm, m1, m2, hm⟩ := cl_ex k2 4 64 (by decide) (by decide)
  refine cl_x hs (cl_x hl (cl_x hm ?_))
  refine cl_y (A := fun z => wY_init_152 _ k1 k2 z 0 0 0 0 1 0 _ _ _ _ _ _ _ _ _ _ _ _ _) hs ?_
  refine cl_y (A := fun z => wY_init_177 _ k2 z (nI cs) 0 0 0 1 0 _ _ _ _ _ _ _ _ _ _ _ _ _) hl ?_
  refine cl_y (A := fun z => i_Rel 3 _ (nI cs, nI cl, z, _)) hm ?_
  refine ⟨cs, cl, cm, 0, 1, 0, 0, 0, (fun _ => 0), (fun _ => 0), (fun _ => 0), (fun _ => 0), (fun _ => 0), (fun _ => 0), (fun _ => 0), (fun _ => 0), (fun _ => 0), (fun _ => 0), (fun _ => 0), (fun _ => 0), (fun _ => 0), (fun _ => 0), (fun _ => 0), 0, 0, 0, 0, 0, 0, 0, (fun _ => 0), (fun _ => 0), (fun _ => 0), (fun _ => 0), (fun _ => 0), (fun _ => 0), (fun _ => 0), (fun _ => 0), (fun _ => 0), (fun _ => 0), (fun _ => 0), (fun _ => 0), (fun _ => 0), (fun _ => 0), (fun _ => 0), (fun _ => 0), (fun _ => 0), (fun _ => 0), (fun _ => 0), (fun _ => 0), (fun _ => 0), (fun _ => 0), (fun _ => 0), (fun _ => 0), (fun _ => 0), (fun _ => 0), rfl, rfl, ?_⟩
  exact ⟨re_A_0 (by omega) s2 _ _ _ _ _ _ _, re_X_0 _ _ _ _ _ _ _ _ _ _ _ _ _ _ _ _ _, l1, l2, m1, m2, by decide, fun z => absurd z (by decide), fun z => absurd z (by decide)⟩
