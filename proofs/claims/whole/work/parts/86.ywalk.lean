/-! ===== the reference: the walk keeps its rules ===== -/
section
variable {g_cellLimit g_callLimit g_closureLimit g_nodes g_holes g_reached : Int32} {b_kinds b_operands b_parents b_s b_p b_rec b_sets b_live b_done b_fn b_val b_entered b_bind : Nat → Int32}
variable {cs n L cl cm E : Nat} {K P N Lv S O B : Nat → Nat} {old : Nat → Int32}
theorem yv_R {post : Int32 → SY → Prop} (Ar : re_A cs n 0 L K P N Lv S O B) (hk : ∀ m, m < n → b_kinds m = nI (K m) ∧ K m ≤ 6) (hpa : ∀ m, 0 < m → m < n → b_parents m = nI (P m)) (hod : ∀ m, m < n → K m = 0 → b_operands m = nI (O m)) (hE : E < 2) (hcl : cl ≤ 48) (h64 : cm ≤ 64) :
    yw_R K (tr_e P n) B (tr_lc K) b_operands (ru_m K) cl cm n
      (fun b q T => ∀ st f x5, st + b < 1000000 → b < f → wY_run_117 post (nI E) (nI (E * 5)) g_cellLimit (nI cl) (nI cm) (nI n) g_holes g_reached f (nI T.1) (nI T.2.1) (nI 0) x5 (nI q) (nI st) b_kinds b_operands b_parents b_s b_p b_rec (re_cs E old (yw_cs T)) b_live (rn_F (yw_dn T)) (yw_fn T) (yw_vl T) (rn_F (yw_et T)) (rn_F (yw_bi T)))
      (fun T => ∀ x5, wY_run_857 post (nI T.1) (nI T.2.1) (if yw_fn T 0 < 0 then nI 1 else nI 2) x5 (nI (E * 5)) g_cellLimit (nI cl) (nI cm) (nI n) g_holes g_reached b_kinds b_operands b_parents b_s b_p b_rec (re_cs E old (yw_cs T)) b_live (rn_F (yw_dn T)) (yw_fn T) (yw_vl T) (rn_F (yw_et T)) (rn_F (yw_bi T)))
      (fun x T => wY_run_857 post (nI T.1) (nI T.2.1) (nI x.1) (nI x.2) (nI (E * 5)) g_cellLimit (nI cl) (nI cm) (nI n) g_holes g_reached b_kinds b_operands b_parents b_s b_p b_rec (re_cs E old (yw_cs T)) b_live (rn_F (yw_dn T)) (yw_fn T) (yw_vl T) (rn_F (yw_et T)) (rn_F (yw_bi T))) := by
  have hn : n ≤ 48 := by have := Ar.2.2.1; have := Ar.2.2.2.1; omega
  have hL : L ≤ 16 := Ar.2.2.2.2.2.1
  have hLn := Ar.2.2.2.2.1
  obtain ⟨_, F0⟩ := re_full Ar
  have lim : ∀ {s : Nat}, s < 1000000 → ¬ (1000000 : Int32) ≤ nI s := fun h => nI_ge (b := 1000000) h (by decide)
  have cell : ∀ {A m : Nat}, A ≤ 48 → m < n → A * 48 + m < 2352 := fun {A m} h1 h2 => by omega
  have vc : ∀ {q : Nat}, q < 2352 → vp_in (nI q) 2352 := fun h => vp_in_nI h (by omega)
  have rd : ∀ (g : Nat → Nat) {q : Nat}, q < 2352 → rn_F g (nI q).toNatClampNeg = nI (g q) := fun g {q} h => rn_at g (by omega)
  have kid0 : ∀ {m : Nat}, m < n → 3 ≤ K m → m + 1 < n := fun hm k => (tr_par1 Ar.1 F0 hm (by omega)).1
  have kid1 : ∀ {m : Nat}, m < n → 3 ≤ K m → tr_e P n (m + 1) < n := fun hm k => (tr_par2 Ar.1 F0 hm k).2.1
  have kid2 : ∀ {m : Nat}, m < n → K m = 6 → tr_e P n (tr_e P n (m + 1)) < n := fun hm k => (tr_par3 Ar.1 F0 hm k).2.1
  -- the ends of a step, from what the rules give
  have J0 : ∀ {f : Nat} {T : yw_S} {q st : Nat} {x y : Int32} {x5 : Int32}, 0 < f → (∀ x5, wY_run_857 post (nI T.1) (nI T.2.1) (if yw_fn (yw_fin q x y T) 0 < 0 then nI 1 else nI 2) x5 (nI (E * 5)) g_cellLimit (nI cl) (nI cm) (nI n) g_holes g_reached b_kinds b_operands b_parents b_s b_p b_rec (re_cs E old (yw_cs (yw_fin q x y T))) b_live (rn_F (yw_dn (yw_fin q x y T))) (yw_fn (yw_fin q x y T)) (yw_vl (yw_fin q x y T)) (rn_F (yw_et (yw_fin q x y T))) (rn_F (yw_bi (yw_fin q x y T)))) → q = 0 → ∀ x4 : Int32, x4 = (if x < 0 then nI 1 else nI 2) → wY_run_117 post (nI E) (nI (E * 5)) g_cellLimit (nI cl) (nI cm) (nI n) g_holes g_reached f (nI T.1) (nI T.2.1) x4 x5 (nI 0) (nI (st + 1)) b_kinds b_operands b_parents b_s b_p b_rec (re_cs E old (yw_cs (yw_fin q x y T))) b_live (rn_F (yw_dn (yw_fin q x y T))) (yw_fn (yw_fin q x y T)) (yw_vl (yw_fin q x y T)) (rn_F (yw_et (yw_fin q x y T))) (rn_F (yw_bi (yw_fin q x y T))) := by
    intro f T q st x y x5 hf H hq x4 e4
    obtain ⟨f, rfl⟩ : ∃ f', f = f' + 1 := ⟨f - 1, by omega⟩
    have e0 : yw_fn (yw_fin q x y T) 0 = x := by
      show (if 0 = q then x else yw_fn T 0) = x
      rw [if_pos hq.symm]
    rw [e0] at H
    have ne : ¬ x4 = 0 := by
      rw [e4]
      by_cases w : x < 0
      · rw [if_pos w]; decide
      · rw [if_neg w]; decide
    rw [← e4] at H
    exact br_c (fun _ => H _) (fun _ => br_f ne (H _))
  -- a stuck cell, a limit
  have X : ∀ {x1 : Nat} {m : Nat} {T : yw_S} {A' B' C' D' E' F' G' H' I' x2 x3 x6 x7 : Int32} {J}, (x1 = 3 ∨ x1 = 4 ∨ x1 = 5) → wY_run_857 post (nI T.1) (nI T.2.1) (nI x1) (nI m) (nI (E * 5)) g_cellLimit (nI cl) (nI cm) (nI n) g_holes g_reached b_kinds b_operands b_parents b_s b_p b_rec (re_cs E old (yw_cs T)) b_live (rn_F (yw_dn T)) (yw_fn T) (yw_vl T) (rn_F (yw_et T)) (rn_F (yw_bi T)) → wY_run_456 post J A' (nI T.1) (nI T.2.1) (nI x1) (nI m) B' (nI (E * 5)) C' D' E' F' G' H' I' g_cellLimit (nI cl) (nI cm) (nI n) g_holes g_reached b_kinds b_operands b_parents b_s b_p b_rec (re_cs E old (yw_cs T)) b_live (rn_F (yw_dn T)) (yw_fn T) (yw_vl T) (rn_F (yw_et T)) (rn_F (yw_bi T)) := by
    intro x1 m T A' B' C' D' E' F' G' H' I' x2 x3 x6 x7 J h H
    exact br_f (nI_ne0 (by omega) (by omega)) H
  refine ⟨?_, ?_, ?_, ?_, ?_, ?_, ?_, ?_, ?_, ?_, ?_, ?_, ?_, ?_, ?_, ?_, ?_⟩
  · intro b d q T H st f x5 h1 h2
    exact H st f x5 (by omega) (by omega)
  · -- to the first child
    intro b A m T hA hm k d0 H st f x5 h1 h2
    obtain ⟨f, rfl⟩ : ∃ f', f = f' + 1 := ⟨f - 1, by omega⟩
    refine yv_entry Ar hk hpa hA hm (by omega) (fun _ => ?_) (fun w => by omega)
    have c1 := cell hA (kid0 hm k)
    have k6 := (hk m hm).2
    have a247 : ∀ x13 x14, wY_run_247 post (wY_run_117 post (nI E) (nI (E * 5)) g_cellLimit (nI cl) (nI cm) (nI n) g_holes g_reached f) (nI E) (nI T.1) (nI T.2.1) (nI 0) (nI m) (nI (A * 48 + m)) (nI (E * 5)) (nI st) (nI (K m)) (nI A) (nI (A * 48 + m)) (nI (A * 48 + (m + 1))) x13 x14 g_cellLimit (nI cl) (nI cm) (nI n) g_holes g_reached b_kinds b_operands b_parents b_s b_p b_rec (re_cs E old (yw_cs T)) b_live (rn_F (yw_dn T)) (yw_fn T) (yw_vl T) (rn_F (yw_et T)) (rn_F (yw_bi T)) := fun x13 x14 => by
      refine br_f (nI_nlt (b := 3) k (by omega)) ⟨vc c1, ?_⟩
      rw [rd _ c1, d0]
      exact br_t rfl (nm_r (nI_1 st) (H (st + 1) f _ (by omega) (by omega)))
    by_cases q6 : K m = 6
    · refine br_t (by rw [q6]; rfl) ⟨vc c1, ?_⟩
      rw [rd _ c1, d0]
      exact br_t rfl (a247 _ _)
    · exact br_f (fun e => q6 ((nI_eq (b := 6) (by omega) (by decide)).mp e)) (a247 _ _)
  · -- to the second child
    intro b A m T hA hm k q6 d1 d0 H st f x5 h1 h2
    obtain ⟨f, rfl⟩ : ∃ f', f = f' + 1 := ⟨f - 1, by omega⟩
    refine yv_entry Ar hk hpa hA hm (by omega) (fun _ => ?_) (fun w => by omega)
    have c1 := cell hA (kid0 hm k)
    have c2 := cell hA (kid1 hm k)
    have k6 := (hk m hm).2
    have n6 : ¬ nI (K m) = 6 := fun e => q6 ((nI_eq (b := 6) (by omega) (by decide)).mp e)
    have n3 : ¬ nI (K m) < 3 := nI_nlt (b := 3) k (by omega)
    refine br_f n6 (br_f n3 ⟨vc c1, ?_⟩)
    rw [rd _ c1, d1]
    refine br_f (by decide) (br_f n3 ⟨vc c2, ?_⟩)
    rw [rd _ c2, d0]
    exact br_t rfl (br_f n6 (nm_r (nI_1 st) (H (st + 1) f _ (by omega) (by omega))))
  · -- to a branch
    intro b A m T i hA hm q6 d1 f1 v1 d0 H st f x5 h1 h2
    obtain ⟨f, rfl⟩ : ∃ f', f = f' + 1 := ⟨f - 1, by omega⟩
    refine yv_entry Ar hk hpa hA hm (by omega) (fun _ => ?_) (fun w => by omega)
    have c1 := cell hA (kid0 hm (by omega))
    have c2 := cell hA (kid1 hm (by omega))
    have c3 := cell hA (kid2 hm q6)
    have hc1 := nI_clamp (n := A * 48 + (m + 1)) (by omega)
    have a247 : ∀ (q : Nat) (x14 : Int32), q = A * 48 + (if i = 0 then tr_e P n (m + 1) else tr_e P n (tr_e P n (m + 1))) → q < 2352 → wY_run_247 post (wY_run_117 post (nI E) (nI (E * 5)) g_cellLimit (nI cl) (nI cm) (nI n) g_holes g_reached f) (nI E) (nI T.1) (nI T.2.1) (nI 0) (nI m) (nI (A * 48 + m)) (nI (E * 5)) (nI st) (nI 6) (nI A) (nI (A * 48 + m)) (nI (A * 48 + (m + 1))) (nI q) x14 g_cellLimit (nI cl) (nI cm) (nI n) g_holes g_reached b_kinds b_operands b_parents b_s b_p b_rec (re_cs E old (yw_cs T)) b_live (rn_F (yw_dn T)) (yw_fn T) (yw_vl T) (rn_F (yw_et T)) (rn_F (yw_bi T)) := fun q x14 eq hq => by
      subst eq
      refine br_f (by decide) ⟨vc c1, ?_⟩
      rw [rd _ c1, d1]
      refine br_f (by decide) (br_f (by decide) ⟨vc hq, ?_⟩)
      rw [rd _ hq, d0, hc1, f1]
      exact br_t rfl (br_t rfl ⟨vc c1, br_f (by decide) (nm_r (nI_1 st) (H (st + 1) f _ (by omega) (by omega)))⟩)
    rw [q6]
    refine br_t rfl ⟨vc c1, ?_⟩
    rw [rd _ c1, d1, hc1, v1]
    refine br_f (by decide) ⟨vc c1, ?_⟩
    by_cases z : i = 0
    · exact br_t z (a247 _ _ (by rw [if_pos z]) c2)
    · refine br_f z (yy_kid2 Ar hpa hm q6 (nm_r (ru_48 A _) (a247 _ _ (by rw [if_neg z]) c3)))
  · -- to a body
    intro b A m T q hA hm q3 d1 d2 et q0 q1 d0 H st f x5 h1 h2
    obtain ⟨f, rfl⟩ : ∃ f', f = f' + 1 := ⟨f - 1, by omega⟩
    refine yv_entry Ar hk hpa hA hm (by omega) (fun _ => ?_) (fun w => by omega)
    have c0 := cell hA hm
    have c1 := cell hA (kid0 hm (by omega))
    have c2 := cell hA (kid1 hm (by omega))
    rw [q3]
    refine br_f (by decide) (br_f (by decide) ⟨vc c1, ?_⟩)
    rw [rd _ c1, d1]
    refine br_f (by decide) (br_f (by decide) ⟨vc c2, ?_⟩)
    rw [rd _ c2, d2]
    refine br_f (by decide) (br_t rfl ⟨vc c0, ?_⟩)
    rw [rd _ c0, et, rd _ q1, d0]
    exact br_f (nI_nle q0 (by omega)) ⟨vc c0, vc q1, br_t rfl ⟨vc c0, nm_e (nm_r (nI_1 st) (H (st + 1) f _ (by omega) (by omega)))⟩⟩
  · -- VAR
    intro b A m T q hA hm k hz eb hq H st f x5 h1 h2
    obtain ⟨f, rfl⟩ : ∃ f', f = f' + 1 := ⟨f - 1, by omega⟩
    refine yv_entry Ar hk hpa hA hm (by omega) (fun w => by omega) (fun _ x y => ?_)
    have c0 := cell hA hm
    have hB : B m < 16 := by
      obtain ⟨a1, b', b1, b2, b3, b4, b5⟩ := Ar.2.2.2.2.2.2.2.2.2.2 m hm k
      have := tr_lc_lt (show b' < n by omega) b2
      omega
    rw [k]
    refine br_f (by decide) (br_t (by decide) (br_t (by decide) (br_f (by decide) (br_f (by decide) (br_t (by decide) (br_t rfl (br_f (by decide) (br_f (by decide) (br_t rfl (br_f (by decide) (br_t rfl (br_f (by decide) (br_t rfl ?_)))))))))))))
    refine yy_look Ar hk hpa hod hm (fun e => absurd e (by decide)) (fun e => absurd e (by decide)) (fun e => absurd e (by decide)) (fun _ => ⟨fun _ => ?_, fun w => by omega, fun w => absurd k w⟩) (fun e => by rcases e with e | e <;> exact absurd e (by decide))
    have e16 : nI A * 16 + nI (B m) = nI (A * 16 + B m) := by
      show nI A * nI 16 + nI (B m) = _
      rw [pk_mul, nI_add]
    rw [e16, rn_at (yw_bi T) (show A * 16 + B m < 2 ^ 31 by omega), eb]
    refine ⟨vp_in_nI (by omega) (by omega), nm_e (br_f (by decide) (br_f (by decide) (br_f (by decide) ?_)))⟩
    exact yv_770 (k9 := 0) c0 hq (by omega) (Or.inl (by omega)) (fun _ => rfl) (fun _ => rfl) hz (fun w => J0 (by omega) (H.1 w) w) (fun w => H.2 w (st + 1) f _ (by omega) (by omega))
  · -- NUM
    intro b A m T hA hm k hz H st f x5 h1 h2
    obtain ⟨f, rfl⟩ : ∃ f', f = f' + 1 := ⟨f - 1, by omega⟩
    refine yv_entry Ar hk hpa hA hm (by omega) (fun w => by omega) (fun _ x y => ?_)
    have c0 := cell hA hm
    rw [k]
    refine br_f (by decide) (br_t (by decide) (br_t (by decide) (br_f (by decide) (br_f (by decide) (br_t (by decide) (br_t rfl (br_f (by decide) (br_f (by decide) (br_t rfl (br_t rfl ⟨vc c0, nm_e ⟨vp_in_nI (by omega) (by omega), vc c0, nm_e ?_⟩⟩))))))))))
    rw [nI_clamp (n := A * 48 + m) (by omega), nI_clamp (n := m) (by omega)]
    refine br_t rfl (br_f (by decide) (br_f (by decide) (br_f (by decide) (br_f (by decide) (br_f (by decide) ?_)))))
    refine yv_770 (k9 := 1) c0 c0 (by omega) (Or.inl (by omega)) (fun _ => re_uu) (fun _ => re_uu) hz (fun w => ?_) (fun w => ?_)
    · rw [re_us, re_us]
      exact J0 (by omega) (H.1 w) w
    · rw [re_us, re_us]
      exact H.2 w (st + 1) f _ (by omega) (by omega)
  · -- LAM at the limit
    intro b A m T hA hm k hc H st f x5 h1 h2
    obtain ⟨f, rfl⟩ : ∃ f', f = f' + 1 := ⟨f - 1, by omega⟩
    refine yv_entry Ar hk hpa hA hm (by omega) (fun w => by omega) (fun _ x y => ?_)
    rw [k]
    refine br_f (by decide) (br_t (by decide) (br_t (by decide) (br_f (by decide) (br_f (by decide) (br_t (by decide) (br_t rfl (br_f (by decide) (br_t rfl (br_t (by rw [hc]) ?_)))))))))
    exact br_f (by decide) H
  · -- LAM
    intro b A m T hA hm k hz hc H st f x5 h1 h2
    obtain ⟨f, rfl⟩ : ∃ f', f = f' + 1 := ⟨f - 1, by omega⟩
    refine yv_entry Ar hk hpa hA hm (by omega) (fun w => by omega) (fun _ x y => ?_)
    have c0 := cell hA hm
    have ne : ¬ nI T.2.1 = nI cm := fun e => by
      have := (nI_eq (by omega) (by omega)).mp e
      omega
    rw [k]
    refine br_f (by decide) (br_t (by decide) (br_t (by decide) (br_f (by decide) (br_f (by decide) (br_t (by decide) (br_t rfl (br_f (by decide) (br_t rfl (br_f ne (br_t rfl (br_f (by decide) (br_t rfl (br_t rfl (nm_r (nI_1 _) ?_))))))))))))))
    refine yy_look Ar hk hpa hod hm (fun e => absurd e (by decide)) (fun e => absurd e (by decide)) (fun e => absurd e (by decide)) (fun _ => ⟨fun w => by omega, fun _ => ?_, fun _ w => absurd k w⟩) (fun e => by rcases e with e | e <;> exact absurd e (by decide))
    refine ⟨vc c0, nm_e ⟨vc c0, nm_e ?_⟩⟩
    rw [nI_clamp (n := A * 48 + m) (by omega)]
    refine br_f (by decide) (br_f (by decide) (br_f (by decide) (br_f (by decide) ?_)))
    refine yv_770 (T := yw_inc T) (k9 := 2) c0 c0 (by omega) (Or.inl (by omega)) (fun _ => re_uu) (fun _ => re_uu) hz (fun w => ?_) (fun w => ?_)
    · rw [re_us, re_us]
      exact J0 (T := yw_inc T) (by omega) (H.1 w) w
    · rw [re_us, re_us]
      exact H.2 w (st + 1) f _ (by omega) (by omega)
  · -- IF0 on a closure
    intro b A m T l hA hm q6 d1 f1 hl H st f x5 h1 h2
    obtain ⟨f, rfl⟩ : ∃ f', f = f' + 1 := ⟨f - 1, by omega⟩
    refine yv_entry Ar hk hpa hA hm (by omega) (fun _ => ?_) (fun w => by omega)
    have c1 := cell hA (kid0 hm (by omega))
    have c2 := cell hA (kid1 hm (by omega))
    have c3 := cell hA (kid2 hm q6)
    have hc1 := nI_clamp (n := A * 48 + (m + 1)) (by omega)
    have a310 : ∀ (q : Nat) , wY_run_310 post (wY_run_117 post (nI E) (nI (E * 5)) g_cellLimit (nI cl) (nI cm) (nI n) g_holes g_reached f) (nI E) (nI T.1) (nI T.2.1) (nI 0) (nI m) (nI (A * 48 + m)) (nI (E * 5)) (nI st) (nI 6) (nI A) (nI (A * 48 + m)) (nI (A * 48 + (m + 1))) (nI q) (nI 0) g_cellLimit (nI cl) (nI cm) (nI n) g_holes g_reached b_kinds b_operands b_parents b_s b_p b_rec (re_cs E old (yw_cs T)) b_live (rn_F (yw_dn T)) (yw_fn T) (yw_vl T) (rn_F (yw_et T)) (rn_F (yw_bi T)) := fun q => by
      refine br_f (by decide) (br_f (by decide) (br_f (by decide) ⟨vc c1, ?_⟩))
      rw [hc1, f1]
      exact br_t (nI_pos' (by omega)) (br_f (by decide) H)
    have a247 : ∀ (q : Nat), q < 2352 → wY_run_247 post (wY_run_117 post (nI E) (nI (E * 5)) g_cellLimit (nI cl) (nI cm) (nI n) g_holes g_reached f) (nI E) (nI T.1) (nI T.2.1) (nI 0) (nI m) (nI (A * 48 + m)) (nI (E * 5)) (nI st) (nI 6) (nI A) (nI (A * 48 + m)) (nI (A * 48 + (m + 1))) (nI q) (nI 0) g_cellLimit (nI cl) (nI cm) (nI n) g_holes g_reached b_kinds b_operands b_parents b_s b_p b_rec (re_cs E old (yw_cs T)) b_live (rn_F (yw_dn T)) (yw_fn T) (yw_vl T) (rn_F (yw_et T)) (rn_F (yw_bi T)) := fun q hq => by
      refine br_f (by decide) ⟨vc c1, ?_⟩
      rw [rd _ c1, d1]
      refine br_f (by decide) (br_f (by decide) ⟨vc hq, br_c (fun _ => br_t rfl ⟨vc c1, ?_⟩) (fun _ => a310 q)⟩)
      rw [hc1, f1]
      exact br_t (nI_pos' (by omega)) (a310 q)
    rw [if_neg (by omega), q6]
    refine br_t rfl ⟨vc c1, ?_⟩
    rw [rd _ c1, d1]
    refine br_f (by decide) ⟨vc c1, br_c (fun _ => a247 _ c2) (fun _ => ?_)⟩
    exact yy_kid2 Ar hpa hm q6 (nm_r (ru_48 A _) (a247 _ c3))
  · -- IF0
    intro b A m T i q hA hm q6 hz d1 f1 v1 eq dq H st f x5 h1 h2
    obtain ⟨f, rfl⟩ : ∃ f', f = f' + 1 := ⟨f - 1, by omega⟩
    refine yv_entry Ar hk hpa hA hm (by omega) (fun _ => ?_) (fun w => by omega)
    have c0 := cell hA hm
    have c1 := cell hA (kid0 hm (by omega))
    have c2 := cell hA (kid1 hm (by omega))
    have c3 := cell hA (kid2 hm q6)
    have hc1 := nI_clamp (n := A * 48 + (m + 1)) (by omega)
    have hq : q < 2352 := by
      by_cases z : i = 0
      · rw [if_pos z] at eq; omega
      · rw [if_neg z] at eq; omega
    have a247 : wY_run_247 post (wY_run_117 post (nI E) (nI (E * 5)) g_cellLimit (nI cl) (nI cm) (nI n) g_holes g_reached f) (nI E) (nI T.1) (nI T.2.1) (nI 0) (nI m) (nI (A * 48 + m)) (nI (E * 5)) (nI st) (nI 6) (nI A) (nI (A * 48 + m)) (nI (A * 48 + (m + 1))) (nI q) (nI 0) g_cellLimit (nI cl) (nI cm) (nI n) g_holes g_reached b_kinds b_operands b_parents b_s b_p b_rec (re_cs E old (yw_cs T)) b_live (rn_F (yw_dn T)) (yw_fn T) (yw_vl T) (rn_F (yw_et T)) (rn_F (yw_bi T)) := by
      refine br_f (by decide) ⟨vc c1, ?_⟩
      rw [rd _ c1, d1]
      refine br_f (by decide) (br_f (by decide) ⟨vc hq, ?_⟩)
      rw [rd _ hq, dq]
      refine br_f (by decide) (br_f (by decide) (br_f (by decide) (br_f (by decide) ⟨vc c1, ?_⟩)))
      rw [hc1, f1]
      refine br_f (by decide) (br_t rfl (br_f (by decide) (br_f (by decide) (br_t rfl (br_f (by decide) (br_t rfl (br_f (by decide) (br_f (by decide) (br_t rfl (br_f (by decide) (br_f (by decide) ?_)))))))))))
      exact yv_770 (k9 := 6) c0 hq (by omega) (Or.inl (by omega)) (fun _ => rfl) (fun _ => rfl) hz (fun w => J0 (by omega) (H.1 w) w) (fun w => H.2 w (st + 1) f _ (by omega) (by omega))
    rw [if_neg (by omega), q6]
    refine br_t rfl ⟨vc c1, ?_⟩
    rw [rd _ c1, d1, hc1, v1]
    refine br_f (by decide) ⟨vc c1, ?_⟩
    by_cases z : i = 0
    · rw [if_pos z] at eq
      rw [← eq]
      exact br_t z a247
    · rw [if_neg z] at eq
      refine br_f z (yy_kid2 Ar hpa hm q6 (nm_r (ru_48 A _) ?_))
      rw [← eq]
      exact a247
  · -- ADD, SUB
    intro b A m T hA hm k hz d1 d2 f1 f2 H st f x5 h1 h2
    obtain ⟨f, rfl⟩ : ∃ f', f = f' + 1 := ⟨f - 1, by omega⟩
    refine yv_entry Ar hk hpa hA hm (by omega) (fun _ => ?_) (fun w => by omega)
    have c0 := cell hA hm
    have c1 := cell hA (kid0 hm (by omega))
    have c2 := cell hA (kid1 hm (by omega))
    have hc0 := nI_clamp (n := A * 48 + m) (by omega)
    have hc1 := nI_clamp (n := A * 48 + (m + 1)) (by omega)
    have hc2 := nI_clamp (n := A * 48 + tr_e P n (m + 1)) (by omega)
    rw [if_pos k]
    have n6 : ¬ nI (K m) = 6 := by rcases k with q | q <;> rw [q] <;> decide
    have n3 : ¬ nI (K m) = 3 := by rcases k with q | q <;> rw [q] <;> decide
    have l3 : ¬ nI (K m) < 3 := by rcases k with q | q <;> rw [q] <;> decide
    have l4 : ¬ nI (K m) < 4 := by rcases k with q | q <;> rw [q] <;> decide
    have n2 : ¬ nI (K m) = 2 := by rcases k with q | q <;> rw [q] <;> decide
    have n1 : ¬ nI (K m) = 1 := by rcases k with q | q <;> rw [q] <;> decide
    have n0 : ¬ nI (K m) = 0 := by rcases k with q | q <;> rw [q] <;> decide
    refine br_f n6 (br_f l3 ⟨vc c1, ?_⟩)
    rw [rd _ c1, d1]
    refine br_f (by decide) (br_f l3 ⟨vc c2, ?_⟩)
    rw [rd _ c2, d2]
    refine br_f (by decide) (br_f n3 (br_f n3 (br_f l4 ⟨vc c1, ?_⟩)))
    rw [hc1, f1]
    refine br_f (by decide) (br_f (by decide) ⟨vc c2, ?_⟩)
    rw [hc2, f2]
    refine br_t (by decide) (br_f n3 (br_f n2 (br_t rfl (br_f n1 (br_f (by decide) ⟨vc c0, nm_e ?_⟩)))))
    rw [hc0, hc1, hc2]
    have rest : ∀ vv : Int32, vv = (if K m = 4 then yw_vl T (A * 48 + (m + 1)) + yw_vl T (A * 48 + tr_e P n (m + 1)) else yw_vl T (A * 48 + (m + 1)) - yw_vl T (A * 48 + tr_e P n (m + 1))) → wY_run_550 post (wY_run_117 post (nI E) (nI (E * 5)) g_cellLimit (nI cl) (nI cm) (nI n) g_holes g_reached f) (nI E) (nI T.1) (nI T.2.1) (nI 0) (nI m) (nI (A * 48 + m)) (nI (E * 5)) (nI st) (nI (K m)) (nI A) (nI (A * 48 + m)) (nI (A * 48 + (m + 1))) (nI (A * 48 + tr_e P n (m + 1))) vv (nI (A * 48 + m)) g_cellLimit (nI cl) (nI cm) (nI n) g_holes g_reached b_kinds b_operands b_parents b_s b_p b_rec (re_cs E old (yw_cs T)) b_live (rn_F (yw_dn T)) (upd (yw_fn T) (A * 48 + m) (-1)) (yw_vl T) (rn_F (yw_et T)) (rn_F (yw_bi T)) := fun vv ev => by
      refine ⟨vc c0, nm_e ?_⟩
      rw [hc0]
      refine br_f n2 (br_f n0 (br_f n6 (br_f n3 (br_f n3 ?_))))
      refine yv_770 c0 c0 (hk m hm).2 (Or.inl (by omega)) (fun _ => re_uu) (fun _ => re_uu) hz (fun w => ?_) (fun w => ?_)
      · rw [re_us, re_us, ev]
        exact J0 (by omega) (H.1 w) w
      · rw [re_us, re_us, ev]
        exact H.2 w (st + 1) f _ (by omega) (by omega)
    by_cases q4 : K m = 4
    · exact br_t (by rw [q4]; rfl) ⟨vc c1, vc c2, rest _ (if_pos q4).symm⟩
    · exact br_f (fun e => q4 ((nI_eq (b := 4) (by omega) (by decide)).mp e)) ⟨vc c1, vc c2, rest _ (if_neg q4).symm⟩
  · -- ADD, SUB on a closure
    intro b A m T hA hm k d1 d2 hs H st f x5 h1 h2
    obtain ⟨f, rfl⟩ : ∃ f', f = f' + 1 := ⟨f - 1, by omega⟩
    refine yv_entry Ar hk hpa hA hm (by omega) (fun _ => ?_) (fun w => by omega)
    have c1 := cell hA (kid0 hm (by omega))
    have c2 := cell hA (kid1 hm (by omega))
    have hc1 := nI_clamp (n := A * 48 + (m + 1)) (by omega)
    have hc2 := nI_clamp (n := A * 48 + tr_e P n (m + 1)) (by omega)
    rw [if_pos k]
    have n6 : ¬ nI (K m) = 6 := by rcases k with q | q <;> rw [q] <;> decide
    have n3 : ¬ nI (K m) = 3 := by rcases k with q | q <;> rw [q] <;> decide
    have l3 : ¬ nI (K m) < 3 := by rcases k with q | q <;> rw [q] <;> decide
    have l4 : ¬ nI (K m) < 4 := by rcases k with q | q <;> rw [q] <;> decide
    refine br_f n6 (br_f l3 ⟨vc c1, ?_⟩)
    rw [rd _ c1, d1]
    refine br_f (by decide) (br_f l3 ⟨vc c2, ?_⟩)
    rw [rd _ c2, d2]
    refine br_f (by decide) (br_f n3 (br_f n3 (br_f l4 ⟨vc c1, ?_⟩)))
    rw [hc1]
    rcases hs with ⟨l, hl, e⟩ | ⟨e0, l, hl, e⟩
    · rw [e]
      exact br_t (nI_pos' (by omega)) (br_f (by decide) H)
    · rw [e0]
      refine br_f (by decide) (br_f (by decide) ⟨vc c2, ?_⟩)
      rw [hc2, e]
      exact br_f (nI_pos (by omega)) (br_f (by decide) H)
  · -- APP of a number
    intro b A m T hA hm q3 d1 d2 et f1 H st f x5 h1 h2
    obtain ⟨f, rfl⟩ : ∃ f', f = f' + 1 := ⟨f - 1, by omega⟩
    refine yv_entry Ar hk hpa hA hm (by omega) (fun _ => ?_) (fun w => by omega)
    have c0 := cell hA hm
    have c1 := cell hA (kid0 hm (by omega))
    have c2 := cell hA (kid1 hm (by omega))
    have hc1 := nI_clamp (n := A * 48 + (m + 1)) (by omega)
    rw [if_neg (by omega), q3]
    refine br_f (by decide) (br_f (by decide) ⟨vc c1, ?_⟩)
    rw [rd _ c1, d1]
    refine br_f (by decide) (br_f (by decide) ⟨vc c2, ?_⟩)
    rw [rd _ c2, d2]
    refine br_f (by decide) (br_t rfl ⟨vc c0, ?_⟩)
    rw [rd _ c0, et]
    refine br_t (by decide) (br_t rfl ⟨vc c1, ?_⟩)
    rw [hc1, f1]
    exact br_f (by decide) (br_f (by decide) H)
  · -- APP at the limit
    intro b A m T l hA hm q3 d1 d2 et f1 hl hc H st f x5 h1 h2
    obtain ⟨f, rfl⟩ : ∃ f', f = f' + 1 := ⟨f - 1, by omega⟩
    refine yv_entry Ar hk hpa hA hm (by omega) (fun _ => ?_) (fun w => by omega)
    have c0 := cell hA hm
    have c1 := cell hA (kid0 hm (by omega))
    have c2 := cell hA (kid1 hm (by omega))
    have hc1 := nI_clamp (n := A * 48 + (m + 1)) (by omega)
    rw [if_neg (by omega), q3]
    refine br_f (by decide) (br_f (by decide) ⟨vc c1, ?_⟩)
    rw [rd _ c1, d1]
    refine br_f (by decide) (br_f (by decide) ⟨vc c2, ?_⟩)
    rw [rd _ c2, d2]
    refine br_f (by decide) (br_t rfl ⟨vc c0, ?_⟩)
    rw [rd _ c0, et]
    refine br_t (by decide) (br_t rfl ⟨vc c1, ?_⟩)
    rw [hc1, f1]
    refine br_t (nI_pos' (by omega)) (br_t rfl ⟨vc c0, ?_⟩)
    rw [rd _ c0, et]
    exact br_t rfl (br_t (by rw [hc]) (br_f (by decide) H))
  · -- a call
    intro b A m T p A' hA hm q3 d1 d2 et hp kp f1 v1 hA' hc dz dm H st f x5 h1 h2
    obtain ⟨f, rfl⟩ : ∃ f', f = f' + 1 := ⟨f - 1, by omega⟩
    refine yv_entry Ar hk hpa hA hm (by omega) (fun _ => ?_) (fun w => by omega)
    have c0 := cell hA hm
    have c1 := cell hA (kid0 hm (by omega))
    have c2 := cell hA (kid1 hm (by omega))
    have hc0 := nI_clamp (n := A * 48 + m) (by omega)
    have hc1 := nI_clamp (n := A * 48 + (m + 1)) (by omega)
    have lp := tr_lc_lt hp kp
    have hl : tr_lc K p < 16 := by omega
    have ncl : ¬ nI T.1 = nI cl := fun e => by
      have := (nI_eq (by omega) (by omega)).mp e
      omega
    have m16 : ∀ a b : Nat, nI a * 16 + nI b = nI (a * 16 + b) := fun a b => by
      show nI a * nI 16 + nI b = _
      rw [pk_mul, nI_add]
    rw [if_neg (by omega), q3]
    refine br_f (by decide) (br_f (by decide) ⟨vc c1, ?_⟩)
    rw [rd _ c1, d1]
    refine br_f (by decide) (br_f (by decide) ⟨vc c2, ?_⟩)
    rw [rd _ c2, d2]
    refine br_f (by decide) (br_t rfl ⟨vc c0, ?_⟩)
    rw [rd _ c0, et]
    refine br_t (by decide) (br_t rfl ⟨vc c1, ?_⟩)
    rw [hc1, f1]
    refine br_t (nI_pos' (by omega)) (br_t rfl ⟨vc c0, ?_⟩)
    rw [rd _ c0, et]
    refine br_t rfl (br_f ncl (br_f (by decide) (br_t rfl (br_f (by decide) (br_t rfl (br_f (by decide) (br_f (by decide) (br_f (by decide) (br_t rfl ⟨vc c0, ?_⟩)))))))))
    rw [rd _ c0, et]
    refine br_t (by decide) (br_t rfl (nm_r (nI_1 T.1) ⟨17, ?_⟩))
    have go : ∀ d i f', i + d = 16 → d < f' → wY_run_659 post (wY_run_117 post (nI E) (nI (E * 5)) g_cellLimit (nI cl) (nI cm) (nI n) g_holes g_reached f) (nI E) (nI (T.1 + 1)) (nI T.2.1) (nI 0) (nI m) (nI (A * 48 + m)) (nI (E * 5)) (nI st) (nI 3) (nI (A * 48 + m)) (nI (A * 48 + (m + 1))) (nI (A * 48 + tr_e P n (m + 1))) g_cellLimit (nI cl) (nI cm) (nI n) g_holes g_reached f' (nI i) b_kinds b_operands b_parents b_s b_p b_rec (re_cs E old (yw_cs T)) b_live (rn_F (yw_dn T)) (yw_fn T) (yw_vl T) (rn_F (yw_et T)) (rn_F (fun j => if (T.1 + 1) * 16 ≤ j ∧ j < (T.1 + 1) * 16 + i then yw_bi T (A' * 16 + (j - (T.1 + 1) * 16)) else yw_bi T j)) := by
      intro d
      induction d with
      | zero =>
        intro i f' hi hf'
        obtain ⟨f', rfl⟩ : ∃ f'', f' = f'' + 1 := ⟨f' - 1, by omega⟩
        have e : i = 16 := by omega
        subst e
        refine br_t (by decide) ⟨vc c1, ?_⟩
        rw [hc1, f1, m16, nI_clamp (n := (T.1 + 1) * 16 + tr_lc K p) (by omega), rn_put, ru_48, nI_clamp (n := E * 48 + m) (by omega), re_cs_at E old _ (show m < 48 by omega), re_cs_put E old _ (show m < 48 by omega)]
        refine ⟨vp_in_nI (by omega) (by omega), nm_e ⟨vp_in_nI (by omega) (by omega), vc c1, vp_in_nI (by omega) (by omega), nm_e ⟨vc c1, ?_⟩⟩⟩
        refine yy_lambdaNode hn hk (fun a ha ka ea => ⟨vc c0, ?_⟩) (fun w => absurd rfl (w p hp kp))
        have la := tr_lc_lt ha ka
        have ep : a = p := tr_lc_inj ka kp ((nI_eq (by omega) (by omega)).mp ea).symm
        subst ep
        rw [ru_48, nI_1, hc0, rn_put]
        refine nm_e ⟨vc c0, vc c0, ?_⟩
        have uf : upd (yw_fn T) (A * 48 + m) (yw_fn T (A * 48 + m)) = yw_fn T := by
          funext j
          unfold upd
          by_cases z : j = A * 48 + m
          · rw [if_pos z, z]
          · rw [if_neg z]
        have uv : upd (yw_vl T) (A * 48 + m) (yw_vl T (A * 48 + m)) = yw_vl T := by
          funext j
          unfold upd
          by_cases z : j = A * 48 + m
          · rw [if_pos z, z]
          · rw [if_neg z]
        have ud : rn_F (tr_put (yw_dn T) (A * 48 + m) 0) = rn_F (yw_dn T) := by
          funext j
          show nI (tr_put (yw_dn T) (A * 48 + m) 0 j) = nI (yw_dn T j)
          by_cases z : j = A * 48 + m
          · rw [z, tr_put_s, dm]
          · rw [tr_put_n _ _ z]
        rw [hc0, uf, uv]
        refine nm_e ⟨vc c0, vc c0, nm_e (br_t rfl (br_t rfl ⟨vc c0, ?_⟩))⟩
        rw [hc0, yv_b.2, rn_put, ud]
        have d0 : rn_F (yw_dn T) 0 = nI 0 := by
          show nI (yw_dn T 0) = nI 0
          rw [dz]
        refine nm_e ?_
        rw [d0]
        have fin := H (st + 1) f (nI m) (by omega) (by omega)
        have eb : (fun j => if j = (T.1 + 1) * 16 + tr_lc K a then A * 48 + tr_e P n (m + 1) else if (T.1 + 1) * 16 ≤ j ∧ j < (T.1 + 1) * 16 + 16 then yw_bi T (A' * 16 + (j - (T.1 + 1) * 16)) else yw_bi T j) = tr_put (fun j => if (T.1 + 1) * 16 ≤ j ∧ j < (T.1 + 1) * 16 + 16 then yw_bi T (A' * 16 + (j - (T.1 + 1) * 16)) else yw_bi T j) ((T.1 + 1) * 16 + tr_lc K a) (A * 48 + tr_e P n (m + 1)) := rfl
        exact br_t rfl (nm_r (nI_1 st) fin)
      | succ d ih =>
        intro i f' hi hf'
        obtain ⟨f', rfl⟩ : ∃ f'', f' = f'' + 1 := ⟨f' - 1, by omega⟩
        refine br_f (nI_ge (b := 16) (by omega) (by decide)) ⟨vc c1, ?_⟩
        rw [hc1, v1, m16, m16, nI_clamp (n := A' * 16 + i) (by omega), nI_clamp (n := (T.1 + 1) * 16 + i) (by omega)]
        refine ⟨vp_in_nI (by omega) (by omega), vp_in_nI (by omega) (by omega), ?_⟩
        have rdv : rn_F (fun j => if (T.1 + 1) * 16 ≤ j ∧ j < (T.1 + 1) * 16 + i then yw_bi T (A' * 16 + (j - (T.1 + 1) * 16)) else yw_bi T j) (A' * 16 + i) = nI (yw_bi T (A' * 16 + i)) := by
          show nI (if (T.1 + 1) * 16 ≤ A' * 16 + i ∧ A' * 16 + i < (T.1 + 1) * 16 + i then _ else _) = _
          rw [if_neg (by omega)]
        rw [rdv, rn_put]
        have eg : tr_put (fun j => if (T.1 + 1) * 16 ≤ j ∧ j < (T.1 + 1) * 16 + i then yw_bi T (A' * 16 + (j - (T.1 + 1) * 16)) else yw_bi T j) ((T.1 + 1) * 16 + i) (yw_bi T (A' * 16 + i)) = (fun j => if (T.1 + 1) * 16 ≤ j ∧ j < (T.1 + 1) * 16 + (i + 1) then yw_bi T (A' * 16 + (j - (T.1 + 1) * 16)) else yw_bi T j) := by
          funext j
          show (if j = (T.1 + 1) * 16 + i then yw_bi T (A' * 16 + i) else if (T.1 + 1) * 16 ≤ j ∧ j < (T.1 + 1) * 16 + i then yw_bi T (A' * 16 + (j - (T.1 + 1) * 16)) else yw_bi T j) = _
          by_cases z : j = (T.1 + 1) * 16 + i
          · rw [if_pos z, if_pos (by omega), z, Nat.add_sub_cancel_left]
          · rw [if_neg z]
            by_cases y : (T.1 + 1) * 16 ≤ j ∧ j < (T.1 + 1) * 16 + i
            · rw [if_pos y, if_pos (by omega)]
            · rw [if_neg y, if_neg (by omega)]
        rw [eg]
        exact nm_e (nm_r (nI_1 i) (ih (i + 1) f' (by omega) (by omega)))
    have g := go 16 0 17 (by omega) (by omega)
    have e0 : (fun j => if (T.1 + 1) * 16 ≤ j ∧ j < (T.1 + 1) * 16 + 0 then yw_bi T (A' * 16 + (j - (T.1 + 1) * 16)) else yw_bi T j) = yw_bi T := by
      funext j
      rw [if_neg (by omega)]
    rw [e0] at g
    exact g
  · -- behind a call
    intro b A m T q l hA hm q3 hz d1 d2 et q0 q1 dq dm f1 hl H st f x5 h1 h2
    obtain ⟨f, rfl⟩ : ∃ f', f = f' + 1 := ⟨f - 1, by omega⟩
    refine yv_entry Ar hk hpa hA hm (by omega) (fun _ => ?_) (fun w => by omega)
    have c0 := cell hA hm
    have c1 := cell hA (kid0 hm (by omega))
    have c2 := cell hA (kid1 hm (by omega))
    have hc1 := nI_clamp (n := A * 48 + (m + 1)) (by omega)
    rw [if_neg (by omega), q3]
    refine br_f (by decide) (br_f (by decide) ⟨vc c1, ?_⟩)
    rw [rd _ c1, d1]
    refine br_f (by decide) (br_f (by decide) ⟨vc c2, ?_⟩)
    rw [rd _ c2, d2]
    refine br_f (by decide) (br_t rfl ⟨vc c0, ?_⟩)
    rw [rd _ c0, et]
    have nle : ¬ nI q ≤ 0 := nI_nle q0 (by omega)
    refine br_f nle ⟨vc c0, vc q1, ?_⟩
    rw [rd _ q1, dq]
    refine br_f (by decide) (br_t rfl ⟨vc c1, ?_⟩)
    rw [hc1, f1]
    refine br_t (nI_pos' (by omega)) (br_t rfl ⟨vc c0, ?_⟩)
    rw [rd _ c0, et]
    refine br_f (nI_ne0 q0 (by omega)) (br_f (by decide) (br_t rfl (br_f (by decide) (br_t rfl (br_f (by decide) (br_f (by decide) (br_f (by decide) (br_t rfl ⟨vc c0, ?_⟩))))))))
    rw [rd _ c0, et]
    refine br_f nle ⟨vc c0, nm_e ?_⟩
    exact yv_770 (k9 := 3) c0 q1 (by omega) (Or.inr (fun w => by rw [w, dm] at dq; cases dq)) (fun _ => rfl) (fun _ => rfl) hz (fun w => J0 (by omega) (H.1 w) w) (fun w => H.2 w (st + 1) f _ (by omega) (by omega))
end
