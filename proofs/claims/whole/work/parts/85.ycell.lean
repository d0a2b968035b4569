/-! ===== the reference: a cell gets its value ===== -/
theorem yv_b : vp_nar .boolean 1 = nI 1 ∧ vp_nar .boolean 0 = nI 0 := ⟨rfl, rfl⟩
section
variable {g_cellLimit g_callLimit g_closureLimit g_nodes g_holes g_reached : Int32} {b_kinds b_operands b_parents b_s b_p b_rec b_sets b_live b_done b_fn b_val b_entered b_bind : Nat → Int32}
variable {cs n L cl cm E : Nat} {K P N Lv S O B : Nat → Nat} {old : Nat → Int32} {T : yw_S}
/-- the end of a step that gives cell q the value of cell q' -/
theorem yv_770 {post : Int32 → SY → Prop} {J : Int32 → Int32 → Int32 → Int32 → Int32 → Int32 → (Nat → Int32) → (Nat → Int32) → (Nat → Int32) → (Nat → Int32) → (Nat → Int32) → (Nat → Int32) → (Nat → Int32) → (Nat → Int32) → (Nat → Int32) → (Nat → Int32) → (Nat → Int32) → (Nat → Int32) → (Nat → Int32) → Prop} {fn1 vl1 : Nat → Int32} {x1 ca co x5 x7 : Int32} {k9 q q' st : Nat} (hq : q < 2352) (hq' : q' < 2352) (hk9 : k9 ≤ 6) (hne : k9 ≠ 3 ∨ q' ≠ q) (e1 : ∀ v, upd fn1 q v = upd (yw_fn T) q v) (e2 : ∀ v, upd vl1 q v = upd (yw_vl T) q v) (hz : q ≠ 0 → yw_dn T 0 = 0)
    (h0 : q = 0 → ∀ x4 : Int32, x4 = (if fn1 q' < 0 then nI 1 else nI 2) → J ca co x4 x5 (nI 0) (nI (st + 1)) b_kinds b_operands b_parents b_s b_p b_rec (re_cs E old (yw_cs (yw_fin q (fn1 q') (vl1 q') T))) b_live (rn_F (yw_dn (yw_fin q (fn1 q') (vl1 q') T))) (yw_fn (yw_fin q (fn1 q') (vl1 q') T)) (yw_vl (yw_fin q (fn1 q') (vl1 q') T)) (rn_F (yw_et (yw_fin q (fn1 q') (vl1 q') T))) (rn_F (yw_bi (yw_fin q (fn1 q') (vl1 q') T))))
    (h1 : q ≠ 0 → J ca co (nI 0) x5 (nI 0) (nI (st + 1)) b_kinds b_operands b_parents b_s b_p b_rec (re_cs E old (yw_cs (yw_fin q (fn1 q') (vl1 q') T))) b_live (rn_F (yw_dn (yw_fin q (fn1 q') (vl1 q') T))) (yw_fn (yw_fin q (fn1 q') (vl1 q') T)) (yw_vl (yw_fin q (fn1 q') (vl1 q') T)) (rn_F (yw_et (yw_fin q (fn1 q') (vl1 q') T))) (rn_F (yw_bi (yw_fin q (fn1 q') (vl1 q') T)))) :
    wY_run_770 post J x1 ca co (nI 0) x5 (nI q) x7 (nI st) (nI k9) (nI q') g_cellLimit (nI cl) (nI cm) (nI n) g_holes g_reached b_kinds b_operands b_parents b_s b_p b_rec (re_cs E old (yw_cs T)) b_live (rn_F (yw_dn T)) fn1 vl1 (rn_F (yw_et T)) (rn_F (yw_bi T)) := by
  have vq : vp_in (nI q) 2352 := vp_in_nI hq (by omega)
  have vq' : vp_in (nI q') 2352 := vp_in_nI hq' (by omega)
  have hc := nI_clamp (n := q) (by omega)
  have hc' := nI_clamp (n := q') (by omega)
  have main : wY_run_817 post J x1 ca co (nI 0) x5 x7 (nI st) (nI q) g_cellLimit (nI cl) (nI cm) (nI n) g_holes g_reached b_kinds b_operands b_parents b_s b_p b_rec (re_cs E old (yw_cs T)) b_live (rn_F (yw_dn T)) (upd (yw_fn T) q (fn1 q')) (upd (yw_vl T) q (vl1 q')) (rn_F (yw_et T)) (rn_F (yw_bi T)) := by
    refine ⟨vq, ?_⟩
    rw [hc, yv_b.1, rn_put]
    refine nm_e ?_
    by_cases z : q = 0
    · have ed : rn_F (tr_put (yw_dn T) q 1) 0 = nI 1 := by
        show nI (tr_put (yw_dn T) q 1 0) = nI 1
        rw [z, tr_put_s]
      have ef : upd (yw_fn T) q (fn1 q') 0 = fn1 q' := by rw [z, re_us]
      rw [ed, ef]
      refine br_f (by decide) ?_
      have g := h0 z
      by_cases w : fn1 q' < 0
      · rw [if_pos w] at g
        exact br_f (Int32.not_le.mpr w) (nm_r (nI_1 st) (g 1 rfl))
      · rw [if_neg w] at g
        exact br_t (Int32.not_lt.mp w) (nm_r (nI_1 st) (g 2 rfl))
    · have ed : rn_F (tr_put (yw_dn T) q 1) 0 = nI 0 := by
        show nI (tr_put (yw_dn T) q 1 0) = nI 0
        rw [tr_put_n _ _ (fun w => z w.symm), hz z]
      rw [ed]
      exact br_t rfl (nm_r (nI_1 st) (h1 z))
  refine ⟨vq', vq, ?_⟩
  rw [hc, hc', e1, e2]
  refine nm_e ⟨vq', vq, nm_e ?_⟩
  by_cases w : k9 = 3
  · have ne : ¬ nI q' = nI q := fun e => by
      have := (nI_eq (by omega) (by omega)).mp e
      omega
    exact br_t (by rw [w]; rfl) (br_f ne main)
  · exact br_f (fun e => w ((nI_eq (b := 3) (by omega) (by decide)).mp e)) main
/-- the beginning of a step at cell A * 48 + m -/
theorem yv_entry {post : Int32 → SY → Prop} {A m st f : Nat} {ca co x5 : Int32} (Ar : re_A cs n 0 L K P N Lv S O B) (hk : ∀ m, m < n → b_kinds m = nI (K m) ∧ K m ≤ 6) (hpa : ∀ m, 0 < m → m < n → b_parents m = nI (P m)) (hA : A ≤ 48) (hm : m < n) (hst : st < 1000000)
    (h3 : 3 ≤ K m → wY_run_203 post (wY_run_117 post (nI E) (nI (E * 5)) g_cellLimit (nI cl) (nI cm) (nI n) g_holes g_reached f) (nI E) ca co (nI 0) (nI m) (nI (A * 48 + m)) (nI (E * 5)) (nI st) (nI (K m)) (nI A) (nI (A * 48 + m)) (nI (A * 48 + (m + 1))) (nI (A * 48 + tr_e P n (m + 1))) (nI (if K m = 4 ∨ K m = 5 then 1 else 0)) g_cellLimit (nI cl) (nI cm) (nI n) g_holes g_reached b_kinds b_operands b_parents b_s b_p b_rec (re_cs E old (yw_cs T)) b_live (rn_F (yw_dn T)) (yw_fn T) (yw_vl T) (rn_F (yw_et T)) (rn_F (yw_bi T)))
    (h2 : K m < 3 → ∀ x y, wY_run_203 post (wY_run_117 post (nI E) (nI (E * 5)) g_cellLimit (nI cl) (nI cm) (nI n) g_holes g_reached f) (nI E) ca co (nI 0) (nI m) (nI (A * 48 + m)) (nI (E * 5)) (nI st) (nI (K m)) (nI A) (nI (A * 48 + m)) x y (nI 0) g_cellLimit (nI cl) (nI cm) (nI n) g_holes g_reached b_kinds b_operands b_parents b_s b_p b_rec (re_cs E old (yw_cs T)) b_live (rn_F (yw_dn T)) (yw_fn T) (yw_vl T) (rn_F (yw_et T)) (rn_F (yw_bi T))) :
    wY_run_117 post (nI E) (nI (E * 5)) g_cellLimit (nI cl) (nI cm) (nI n) g_holes g_reached (f + 1) ca co (nI 0) x5 (nI (A * 48 + m)) (nI st) b_kinds b_operands b_parents b_s b_p b_rec (re_cs E old (yw_cs T)) b_live (rn_F (yw_dn T)) (yw_fn T) (yw_vl T) (rn_F (yw_et T)) (rn_F (yw_bi T)) := by
  have hn : n ≤ 48 := by have := Ar.2.2.1; have := Ar.2.2.2.1; omega
  have em : nI (A * 48 + m) - nI (A * 48 + m) / 48 * 48 = nI m := by
    have := pk_rem (a := A * 48 + m) (d := 48) (by omega) (by decide) (by decide)
    have e : (A * 48 + m) % 48 = m := by omega
    rw [e] at this
    exact this
  have ed : nI (A * 48 + m) / 48 = nI A := by
    have := pk_div (a := A * 48 + m) (d := 48) (by omega) (by decide) (by decide)
    have e : (A * 48 + m) / 48 = A := by omega
    rw [e] at this
    exact this
  refine br_f (nI_ge (b := 1000000) hst (by decide)) (br_t rfl ⟨by decide, nm_r em ⟨vp_in_nI (by omega) (by omega), ?_⟩⟩)
  rw [nI_clamp (n := m) (by omega)]
  refine nm_r (hk m hm).1 ⟨by decide, nm_r ed ?_⟩
  by_cases k : 3 ≤ K m
  · have g := h3 k
    refine yy_kid0 Ar hpa hm (by omega) (nm_r (ru_48 A (m + 1)) (yy_kid1 Ar hpa hm k (nm_r (ru_48 A _) ?_)))
    have k6 := (hk m hm).2
    by_cases q4 : K m = 4
    · rw [if_pos (Or.inl q4)] at g
      exact br_t (by rw [q4]; rfl) g
    · refine br_f (fun e => q4 ((nI_eq (b := 4) (by omega) (by decide)).mp e)) ?_
      by_cases q5 : K m = 5
      · rw [if_pos (Or.inr q5)] at g
        exact br_t (by rw [q5]; rfl) g
      · rw [if_neg (by rintro (w | w); exact q4 w; exact q5 w)] at g
        exact br_f (fun e => q5 ((nI_eq (b := 5) (by omega) (by decide)).mp e)) g
  · refine yy_kidx (k := 0) Ar hpa hm (by decide) (fun x => nm_e (yy_kidx (k := 1) Ar hpa hm (by decide) (fun y => nm_e ?_)))
    exact br_f (fun e => by have := (nI_eq (b := 4) (by omega) (by decide)).mp e; omega) (br_f (fun e => by have := (nI_eq (b := 5) (by omega) (by decide)).mp e; omega) (h2 (by omega) _ _))
end
