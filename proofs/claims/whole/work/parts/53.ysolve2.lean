section
variable {g_cellLimit g_callLimit g_closureLimit g_nodes g_holes g_reached : Int32} {b_kinds b_operands b_parents b_s b_p b_rec b_sets b_live b_done b_fn b_val b_entered b_bind : Nat → Int32}
variable {cs n L : Nat} {K P N Lv S O B : Nat → Nat} {t : so_S}
theorem yy_grow {post : SY → Prop} {m : Nat} (A : re_A cs n 0 L K P N Lv S O B) (hk : ∀ m, m < n → b_kinds m = nI (K m) ∧ K m ≤ 6) (hpa : ∀ m, 0 < m → m < n → b_parents m = nI (P m)) (hod : ∀ m, m < n → K m = 0 → b_operands m = nI (O m)) (hm : m < n) (R : so_R n L t) (X : so_X n 16 t b_live b_s b_p)
    (hpost : ∀ lv fl pf, so_X n 16 (so_g K (tr_e P n) B (tr_lc K) (re_bd K n) L t m) lv fl pf → post (g_cellLimit, g_callLimit, g_closureLimit, (nI n), g_holes, g_reached, b_kinds, b_operands, b_parents, fl, pf, b_rec, b_sets, lv, b_done, b_fn, b_val, b_entered, b_bind)) :
    wpY_grow post (g_cellLimit, g_callLimit, g_closureLimit, (nI n), g_holes, g_reached, b_kinds, b_operands, b_parents, b_s, b_p, b_rec, b_sets, b_live, b_done, b_fn, b_val, b_entered, b_bind) (nI m) := by
  have hn : n ≤ 48 := by have := A.2.2.1; have := A.2.2.2.1; omega
  have hL : L ≤ 16 := A.2.2.2.2.2.1
  have hLn := A.2.2.2.2.1
  obtain ⟨k1, k6⟩ := hk m hm
  have vm : vp_in (nI m) 48 := vp_in_nI (by omega) (by omega)
  have hcm := nI_clamp (n := m) (by omega)
  have ms := fun i => so_ms_lt hL (R.2.2.2.1 i)
  have lit : ∀ {b : Nat}, b < 2 ^ 31 → nI (K m) = nI b → K m = b := fun hb w => (nI_eq (by omega) hb).mp w
  -- a node without children: the mask is added, the rest does nothing
  have small : K m < 3 → ∀ (a x y : Int32) (c : Nat), so_g K (tr_e P n) B (tr_lc K) (re_bd K n) L t m = so_fl t m c → wY_grow_79 post (nI m) (nI (K m)) a x y (nI c) (b_s m) (nI m) g_cellLimit g_callLimit g_closureLimit (nI n) g_holes g_reached b_kinds b_operands b_parents b_s b_p b_rec b_sets b_live b_done b_fn b_val b_entered b_bind := fun k3 a x y c e => by
    rw [e] at hpost
    refine ⟨vm, nm_e ?_⟩
    rw [hcm, (X.1 m hm).2, bi_or]
    have X1 := so_X_fl X m c (x := nI (t.2.1 m ||| c)) rfl
    have l3 : nI (K m) < 3 := nI_lt (b := 3) k3 (by decide)
    refine br_t l3 (br_t l3 (br_f (fun w => by have := lit (b := 4) (by decide) w; omega) (br_f (fun w => by have := lit (b := 5) (by decide) w; omega) (br_f (fun w => by have := lit (b := 6) (by decide) w; omega) ⟨17, ?_⟩))))
    exact yy_grow_x k6 (by omega) (hpost _ _ _ X1) 16 0 17 (by omega) (by omega)
  refine ⟨vm, ?_⟩
  rw [hcm]
  refine nm_r k1 ?_
  by_cases kb : 3 ≤ K m
  · have nl3 : ¬ nI (K m) < 3 := nI_nlt (b := 3) kb (by omega)
    obtain ⟨h0, F⟩ := re_full A
    obtain ⟨r1, r2⟩ := tr_par1 A.1 F hm (by omega)
    obtain ⟨s0, s1, s2⟩ := tr_par2 A.1 F hm kb
    have v0 : vp_in (nI (m + 1)) 48 := vp_in_nI (by omega) (by omega)
    have v1 : vp_in (nI (tr_e P n (m + 1))) 48 := vp_in_nI (by omega) (by omega)
    have hc0 := nI_clamp (n := m + 1) (by omega)
    have hc1 := nI_clamp (n := tr_e P n (m + 1)) (by omega)
    have m0 := ms (m + 1)
    have m1 := ms (tr_e P n (m + 1))
    have X1 := so_X_lv X (m + 1)
    have X2 := so_X_lv X1 (tr_e P n (m + 1))
    -- behind look
    have main : ∀ y : Int32, (K m = 6 → y = nI (tr_e P n (tr_e P n (m + 1)))) → wY_grow_81 post (nI m) (nI (K m)) (nI (m + 1)) (nI (tr_e P n (m + 1))) y g_cellLimit g_callLimit g_closureLimit (nI n) g_holes g_reached b_kinds b_operands b_parents b_s b_p b_rec b_sets b_live b_done b_fn b_val b_entered b_bind := fun y hy => by
      refine br_f nl3 ⟨v0, nm_e (br_f nl3 ?_)⟩
      rw [hc0, so_b1]
      by_cases q6 : K m = 6
      · -- IF0
        obtain ⟨w0, w1, w2⟩ := tr_par3 A.1 F hm q6
        have v2 : vp_in (nI (tr_e P n (tr_e P n (m + 1)))) 48 := vp_in_nI (by omega) (by omega)
        have hc2 := nI_clamp (n := tr_e P n (tr_e P n (m + 1))) (by omega)
        have e : so_g K (tr_e P n) B (tr_lc K) (re_bd K n) L t m = (if (t.2.1 (m + 1)).testBit 16 = true then so_fl (so_lv (so_lv (so_lv t (m + 1)) (tr_e P n (m + 1))) (tr_e P n (tr_e P n (m + 1)))) m (t.2.1 (tr_e P n (m + 1)) ||| t.2.1 (tr_e P n (tr_e P n (m + 1)))) else so_lv t (m + 1)) := by
          unfold so_g
          rw [if_neg (by omega), if_neg (by omega), if_neg (by omega), if_pos q6]
        rw [e] at hpost
        rw [hy q6, q6]
        refine br_t rfl (br_f (by decide) (br_f (by decide) (br_t rfl ⟨v0, ?_⟩)))
        rw [hc0, (X.1 _ r1).2]
        cases z : (t.2.1 (m + 1)).testBit 16 with
        | false =>
          rw [if_neg (by rw [z]; decide)] at hpost
          exact br_t ((bi_16 (by omega)).mpr z) ⟨17, yy_grow_x (k := 6) (by omega) (by omega) (hpost _ _ _ X1) 16 0 17 (by omega) (by omega)⟩
        | true =>
          rw [if_pos z] at hpost
          refine br_f (fun w => by rw [(bi_16 (by omega)).mp w] at z; cases z) ⟨v1, nm_e ⟨v2, nm_e ⟨vm, v1, v2, vm, nm_e ⟨17, ?_⟩⟩⟩⟩
          rw [hc1, hc2, hcm, so_b1, (X.1 m hm).2, (X.1 _ s1).2, (X.1 _ w1).2, bi_or, bi_or]
          have X3 := so_X_lv X2 (tr_e P n (tr_e P n (m + 1)))
          have X4 := so_X_fl X3 m (t.2.1 (tr_e P n (m + 1)) ||| t.2.1 (tr_e P n (tr_e P n (m + 1)))) rfl
          exact yy_grow_x (k := 6) (by omega) (by omega) (hpost _ _ _ X4) 16 0 17 (by omega) (by omega)
      · have n6 : ¬ nI (K m) = 6 := fun w => q6 (lit (b := 6) (by decide) w)
        refine br_f n6 ⟨v1, nm_e ?_⟩
        rw [hc1]
        by_cases q3 : K m = 3
        · -- APP
          have e : so_g K (tr_e P n) B (tr_lc K) (re_bd K n) L t m = (if t.2.1 (tr_e P n (m + 1)) = 0 then so_lv (so_lv t (m + 1)) (tr_e P n (m + 1)) else so_lp (m + 1) (tr_e P n (m + 1)) m (re_bd K n) (so_lv (so_lv t (m + 1)) (tr_e P n (m + 1))) L) := by
            unfold so_g
            rw [if_neg (by omega), if_neg (by omega), if_neg (by omega), if_neg (by omega), if_pos q3]
          rw [e] at hpost
          rw [q3]
          refine br_f (by decide) (br_f (by decide) (br_f (by decide) ⟨17, ?_⟩))
          by_cases z : t.2.1 (tr_e P n (m + 1)) = 0
          · rw [if_pos z] at hpost
            have go : ∀ d l f, l + d = 16 → d < f → wY_grow_209 post (nI m) (nI 3) (nI (m + 1)) (nI (tr_e P n (m + 1))) g_cellLimit g_callLimit g_closureLimit (nI n) g_holes g_reached f (nI l) b_kinds b_operands b_parents b_s b_p b_rec b_sets (upd (upd b_live (m + 1) (nI 1)) (tr_e P n (m + 1)) (nI 1)) b_done b_fn b_val b_entered b_bind := by
              intro d
              induction d with
              | zero =>
                intro l f hl hf
                obtain ⟨f, rfl⟩ : ∃ f', f = f' + 1 := ⟨f - 1, by omega⟩
                have e : l = 16 := by omega
                subst e
                exact br_t (by decide) (hpost _ _ _ X2)
              | succ d ih =>
                intro l f hl hf
                obtain ⟨f, rfl⟩ : ∃ f', f = f' + 1 := ⟨f - 1, by omega⟩
                refine br_f (nI_ge (b := 16) (by omega) (by decide)) (br_t rfl ⟨v1, ?_⟩)
                rw [hc1, (X.1 _ s1).2, z]
                exact br_t rfl (nm_r (nI_1 l) (ih (l + 1) f (by omega) (by omega)))
            exact go 16 0 17 (by omega) (by omega)
          · rw [if_neg z] at hpost
            exact yy_grow_l A hk hm r1 s1 (by omega) (so_R_lv (so_R_lv R r1) s1) z hpost 16 0 17 _ _ _ (by omega) (by omega) X2 rfl
        · -- ADD, SUB
          have e : so_g K (tr_e P n) B (tr_lc K) (re_bd K n) L t m = so_fl (so_lv (so_lv t (m + 1)) (tr_e P n (m + 1))) m (t.2.1 (m + 1) &&& t.2.1 (tr_e P n (m + 1)) &&& 65536) := by
            unfold so_g
            rw [if_neg (by omega), if_neg (by omega), if_neg (by omega), if_neg q6, if_neg q3]
          rw [e] at hpost
          have fin : wY_grow_122 post (nI m) (nI (K m)) (nI (m + 1)) (nI (tr_e P n (m + 1))) y g_cellLimit g_callLimit g_closureLimit (nI n) g_holes g_reached b_kinds b_operands b_parents b_s b_p b_rec b_sets (upd (upd b_live (m + 1) (nI 1)) (tr_e P n (m + 1)) (nI 1)) b_done b_fn b_val b_entered b_bind := by
            refine ⟨vm, v0, v1, vm, nm_e (br_f n6 ⟨17, ?_⟩)⟩
            rw [hc0, hc1, hcm, (X.1 m hm).2, (X.1 _ r1).2, (X.1 _ s1).2, bi_and, show (65536 : Int32) = nI 65536 from rfl, bi_and, bi_or]
            have X4 := so_X_fl X2 m (t.2.1 (m + 1) &&& t.2.1 (tr_e P n (m + 1)) &&& 65536) rfl
            exact yy_grow_x k6 q3 (hpost _ _ _ X4) 16 0 17 (by omega) (by omega)
          by_cases q4 : K m = 4
          · exact br_t (by rw [q4]; rfl) fin
          · have q5 : K m = 5 := by omega
            exact br_f (fun w => q4 (lit (b := 4) (by decide) w)) (br_t (by rw [q5]; rfl) fin)
    refine yy_kid0 A hpa hm (by omega) (yy_kid1 A hpa hm kb ?_)
    by_cases q6 : K m = 6
    · refine yy_kid2 A hpa hm q6 ?_
      refine yy_look A hk hpa hod hm (fun e => absurd e (by decide)) (fun e => absurd e (by decide)) (fun e => absurd e (by decide)) (fun _ => ⟨fun q => by omega, fun q => by omega, fun _ _ => br_t (nI_le (a := 3) kb (by omega)) (main _ (fun _ => rfl))⟩) (fun e => by rcases e with e | e <;> exact absurd e (by decide))
    · refine yy_kidx (k := 2) A hpa hm (by decide) (fun y => ?_)
      refine yy_look A hk hpa hod hm (fun e => absurd e (by decide)) (fun e => absurd e (by decide)) (fun e => absurd e (by decide)) (fun _ => ⟨fun q => by omega, fun q => by omega, fun _ _ => br_t (nI_le (a := 3) kb (by omega)) (main y (fun w => absurd w q6))⟩) (fun e => by rcases e with e | e <;> exact absurd e (by decide))
  · have k3 : K m < 3 := by omega
    have g3 : ¬ 3 ≤ nI (K m) := nI_ge (b := 3) k3 (by decide)
    refine yy_kidx (k := 0) A hpa hm (by decide) (fun a => yy_kidx (k := 1) A hpa hm (by decide) (fun x => yy_kidx (k := 2) A hpa hm (by decide) (fun y => ?_)))
    refine yy_look A hk hpa hod hm (fun e => absurd e (by decide)) (fun e => absurd e (by decide)) (fun e => absurd e (by decide)) (fun _ => ⟨fun q => ?_, fun q => ?_, fun q q' => ?_⟩) (fun e => by rcases e with e | e <;> exact absurd e (by decide))
    · refine br_f g3 ⟨vm, ?_⟩
      have hB : B m < L := by
        obtain ⟨a1, b, b1, b2, b3, b4, b5⟩ := A.2.2.2.2.2.2.2.2.2.2 m hm q
        rw [b4, hLn]
        exact tr_lc_lt (by omega) b2
      refine br_f (fun w => by have := lit (b := 1) (by decide) w; omega) (br_f (fun w => by have := lit (b := 2) (by decide) w; omega) ⟨vp_in_nI (by omega) (by omega), ?_⟩)
      rw [nI_clamp (by omega), X.2 _ (by omega)]
      refine small k3 a x y (t.2.2 (B m)) ?_
      unfold so_g
      rw [if_pos q]
    · refine br_f g3 ⟨vm, ?_⟩
      have hlc : tr_lc K m < L := by rw [hLn]; exact tr_lc_lt hm q
      refine br_f (fun w => by have := lit (b := 1) (by decide) w; omega) (br_t (by rw [q]; rfl) ?_)
      rw [bi_shl _ (by omega)]
      refine small k3 a x y (2 ^ tr_lc K m) ?_
      unfold so_g
      rw [if_neg (by omega), if_neg (by omega), if_pos q]
    · refine br_f g3 ⟨vm, ?_⟩
      have q1 : K m = 1 := by omega
      refine br_t (by rw [q1]; rfl) ?_
      refine small k3 a x y 65536 ?_
      unfold so_g
      rw [if_neg (by omega), if_pos q1]
end
