/-! ===== run ===== -/
section
variable {g_cellLimit g_callLimit g_closureLimit g_nodes g_holes g_reached : Int32} {b_kinds b_operands b_parents b_s b_p b_rec b_sets b_live b_done b_fn b_val b_entered b_bind : Nat → Int32}
variable {cs n L cl cm E : Nat} {K P N Lv S O B : Nat → Nat} {old : Nat → Int32}
/-- the tables at the start -/
def yv_T0 (dn et bi : Nat → Nat) (fn vl : Nat → Int32) : yw_S := (0, 0, (fun j => if j < 2352 then 0 else dn j), fn, vl, (fun j => if j < 2352 then 0 else et j), bi, (fun _ => 0))
theorem ru_r_5 (E : Nat) (r : Nat → Int32) (a b c d e : Int32) : upd (upd (upd (upd (upd r (E * 5) a) (E * 5 + 1) b) (E * 5 + 2) c) (E * 5 + 3) d) (E * 5 + 4) e = ru_r E r a b c d e := rfl
/-- the record -/
theorem yv_857 {post : Int32 → SY → Prop} {T : yw_S} {x : Nat} {x5 b : Int32} (hE : E < 2) (hx : x ≤ 5) (hb : b = (if x = 1 then yw_vl T 0 else if x = 2 then yw_fn T 0 else nI 0)) (hp : post (nI x) (g_cellLimit, (nI cl), (nI cm), (nI n), g_holes, g_reached, b_kinds, b_operands, b_parents, b_s, b_p, (ru_r E b_rec (nI x) b (if x ≤ 2 then -1 else x5) (nI T.1) (nI T.2.1)), (re_cs E old (yw_cs T)), b_live, (rn_F (yw_dn T)), (yw_fn T), (yw_vl T), (rn_F (yw_et T)), (rn_F (yw_bi T)))) : wY_run_857 post (nI T.1) (nI T.2.1) (nI x) x5 (nI (E * 5)) g_cellLimit (nI cl) (nI cm) (nI n) g_holes g_reached b_kinds b_operands b_parents b_s b_p b_rec (re_cs E old (yw_cs T)) b_live (rn_F (yw_dn T)) (yw_fn T) (yw_vl T) (rn_F (yw_et T)) (rn_F (yw_bi T)) := by
  have e : ∀ k, k < 5 → vp_in (nI (E * 5) + nI k) 10 ∧ (nI (E * 5) + nI k).toNatClampNeg = E * 5 + k := fun k hk => by
    rw [nI_add, nI_clamp (by omega)]
    exact ⟨vp_in_nI (by omega) (by omega), rfl⟩
  have j1 : (nI (E * 5) + 1).toNatClampNeg = E * 5 + 1 := (e 1 (by omega)).2
  have j2 : (nI (E * 5) + 2).toNatClampNeg = E * 5 + 2 := (e 2 (by omega)).2
  have j3 : (nI (E * 5) + 3).toNatClampNeg = E * 5 + 3 := (e 3 (by omega)).2
  have j4 : (nI (E * 5) + 4).toNatClampNeg = E * 5 + 4 := (e 4 (by omega)).2
  have hc := nI_clamp (n := E * 5) (by omega)
  have last : ∀ c : Int32, c = (if x ≤ 2 then -1 else x5) → wY_run_926 post (nI T.1) (nI T.2.1) (nI x) (nI (E * 5)) c (nI (E * 5) + 2) g_cellLimit (nI cl) (nI cm) (nI n) g_holes g_reached b_kinds b_operands b_parents b_s b_p (upd (upd b_rec (E * 5) (nI x)) (E * 5 + 1) b) (re_cs E old (yw_cs T)) b_live (rn_F (yw_dn T)) (yw_fn T) (yw_vl T) (rn_F (yw_et T)) (rn_F (yw_bi T)) := fun c hc => by
    refine ⟨(e 2 (by omega)).1, nm_e ⟨(e 3 (by omega)).1, nm_e ⟨(e 4 (by omega)).1, nm_e ?_⟩⟩⟩
    rw [j2, j3, j4, hc]
    exact hp
  have mid : wY_run_905 post (nI T.1) (nI T.2.1) (nI x) x5 (nI (E * 5)) b (nI (E * 5) + 1) g_cellLimit (nI cl) (nI cm) (nI n) g_holes g_reached b_kinds b_operands b_parents b_s b_p (upd b_rec (E * 5) (nI x)) (re_cs E old (yw_cs T)) b_live (rn_F (yw_dn T)) (yw_fn T) (yw_vl T) (rn_F (yw_et T)) (rn_F (yw_bi T)) := by
    refine ⟨(e 1 (by omega)).1, nm_e ?_⟩
    rw [j1]
    by_cases w : x ≤ 2
    · exact br_t (nI_le (b := 2) w (by decide)) (last _ (if_pos w).symm)
    · exact br_f (nI_ge (a := 2) (by omega) (by omega)) (last _ (if_neg w).symm)
  refine ⟨vp_in_nI (by omega) (by omega), nm_e ?_⟩
  rw [hc]
  by_cases w1 : x = 1
  · rw [if_pos w1] at hb
    rw [hb] at mid
    exact br_t (by rw [w1]; rfl) mid
  · rw [if_neg w1] at hb
    refine br_f (fun q => w1 ((nI_eq (b := 1) (by omega) (by decide)).mp q)) ?_
    by_cases w2 : x = 2
    · rw [if_pos w2] at hb
      rw [hb] at mid
      exact br_t (by rw [w2]; rfl) mid
    · rw [if_neg w2] at hb
      rw [hb] at mid
      exact br_f (fun q => w2 ((nI_eq (b := 2) (by omega) (by decide)).mp q)) mid
theorem yy_run {post : Int32 → SY → Prop} {dn et bi : Nat → Nat} (Ar : re_A cs n 0 L K P N Lv S O B) (hk : ∀ m, m < n → b_kinds m = nI (K m) ∧ K m ≤ 6) (hpa : ∀ m, 0 < m → m < n → b_parents m = nI (P m)) (hod : ∀ m, m < n → K m = 0 → b_operands m = nI (O m)) (hE : E < 2) (hcl : cl ≤ 48) (h64 : cm ≤ 64)
    (hp : ∀ dn fn vl et bi, post (nI (ru_e (ru_ev K P N O b_operands n cl cm).1)) (g_cellLimit, (nI cl), (nI cm), (nI n), g_holes, g_reached, b_kinds, b_operands, b_parents, b_s, b_p, (ru_r E b_rec (nI (ru_e (ru_ev K P N O b_operands n cl cm).1)) (ru_v K (ru_ev K P N O b_operands n cl cm).2 (ru_ev K P N O b_operands n cl cm).1) (ru_n (ru_ev K P N O b_operands n cl cm).1) (nI (ru_ev K P N O b_operands n cl cm).2.1) (nI (ru_ev K P N O b_operands n cl cm).2.2.1)), (re_cs E b_sets (ru_ev K P N O b_operands n cl cm).2.2.2.2.2), b_live, (rn_F dn), fn, vl, (rn_F et), (rn_F bi))) :
    wY_run_34 post (nI E) g_cellLimit (nI cl) (nI cm) (nI n) g_holes g_reached b_kinds b_operands b_parents b_s b_p b_rec b_sets b_live (rn_F dn) b_fn b_val (rn_F et) (rn_F bi) := by
  obtain ⟨h0, F0⟩ := re_full Ar
  have hn : n ≤ 48 := by have := Ar.2.2.1; have := Ar.2.2.2.1; omega
  have hL : L ≤ 16 := Ar.2.2.2.2.2.1
  have N0 : N 0 = 0 := (Ar.2.2.2.2.2.2.1 0 h0).1 rfl
  have sc0 : ∀ l, (fun m l => (S m).testBit l) 0 l = false := (Ar.2.2.2.2.2.2.2.1 0 h0).1 rfl
  obtain ⟨Pr, Po⟩ := ru_post (cm := cm) Ar b_operands hcl
  have Bs := re_so_B (bd := re_bd K n) Ar (re_bd_is (K := K) (n := n))
  have Ru := yv_R (post := post) (g_cellLimit := g_cellLimit) (g_holes := g_holes) (g_reached := g_reached) (b_s := b_s) (b_p := b_p) (b_rec := b_rec) (b_live := b_live) (old := b_sets) Ar hk hpa hod hE hcl h64
  have run := yw_run (re_ev_T Ar) (re_tr_L Ar) hcl hL Bs Ru 2400 ev_e0' 0 ev_s0 Pr
  have run' : yw_M K (tr_e P n) N Lv (tr_lc K) (fun m l => (S m).testBit l) n _ _ _ ev_e0' 0 ev_s0 (ru_ev K P N O b_operands n cl cm).1 (ru_ev K P N O b_operands n cl cm).2 := run
  have lt48 : ∀ {A m : Nat}, A ≤ 48 → m < 48 → A * 48 + m < 2352 := fun {A m} a b => by omega
  have z0 : ∀ {j : Nat}, j < 2352 → yw_dn (yv_T0 dn et bi b_fn b_val) j = 0 ∧ yw_et (yv_T0 dn et bi b_fn b_val) j = 0 := fun {j} hj => ⟨if_pos hj, if_pos hj⟩
  obtain ⟨g1, g2⟩ := run' 0 (yv_T0 dn et bi b_fn b_val) (fun _ => 0) 0 (Nat.le_refl _) ⟨rfl, rfl, rfl, fun k hk => absurd hk (Nat.not_lt_zero k)⟩ (fun b hb kb w => by rw [sc0] at w; cases w) (fun m a b => z0 (by have := tr_root (P := P) h0; omega)) (fun A m a b c => z0 (lt48 b c)) (z0 (by omega)).1 (Nat.zero_le _) (fun T' b _ _ h => h)
  have W1 := Po.1.1
  have W2 := Po.1.2.1
  have cost : yw_c (tr_e P n) 0 ev_s0 (ru_ev K P N O b_operands n cl cm).2 ≤ 705600 := by
    have e := tr_root (P := P) h0
    show 294 * ((tr_e P n 0 - 0) + 49 * ((ru_ev K P N O b_operands n cl cm).2.1 - 0)) ≤ 705600
    omega
  -- the walk from the start
  have walk : ∃ B', B' ≤ 705601 ∧ (∀ st f x5, st + B' < 1000000 → B' < f → wY_run_117 post (nI E) (nI (E * 5)) g_cellLimit (nI cl) (nI cm) (nI n) g_holes g_reached f (nI 0) (nI 0) (nI 0) x5 (nI 0) (nI st) b_kinds b_operands b_parents b_s b_p b_rec (re_cs E b_sets (fun _ => 0)) b_live (rn_F (yw_dn (yv_T0 dn et bi b_fn b_val))) b_fn b_val (rn_F (yw_et (yv_T0 dn et bi b_fn b_val))) (rn_F bi)) := by
    generalize hr : (ru_ev K P N O b_operands n cl cm).1 = r at *
    generalize hs : (ru_ev K P N O b_operands n cl cm).2 = s' at *
    rcases r with v | x
    · refine ⟨0 + yw_c (tr_e P n) 0 ev_s0 s', by omega, ?_⟩
      have fin := g1 v rfl 0 (fun T' kap Q hkap Sm G d yv => ⟨fun _ x5 => ?_, fun w => absurd rfl w⟩)
      · exact fin
      · have q1 : T'.1 = s'.1 := Q.1
        have q2 : T'.2.1 = s'.2.1 := Q.2.1
        have q3 : yw_cs T' = s'.2.2.2.2 := Q.2.2.1
        have yv' : yw_v (tr_lc K) s' kap v (yw_fn T' 0) (yw_vl T' 0) := yv
        rcases v with i | kk
        · obtain ⟨y1, y2⟩ := yv'.1 i rfl
          have lt : yw_fn T' 0 < 0 := by rw [y1]; decide
          rw [if_pos lt]
          refine yv_857 (x := 1) (T := T') hE (by omega) (b := i) (by rw [if_pos rfl, y2]) ?_
          rw [if_pos (by omega), q1, q2, q3]
          exact hp _ _ _ _ _
        · obtain ⟨y1, y2⟩ := yv'.2 kk rfl
          have hkk := Po.2.2.1 _ rfl kk rfl
          obtain ⟨p1, p2, _⟩ := Po.1.2.2 kk hkk
          have lp := tr_lc_lt p1 p2
          have hLn := Ar.2.2.2.2.1
          have nlt : ¬ yw_fn T' 0 < 0 := by rw [y1]; exact nI_pos (by omega)
          rw [if_neg nlt]
          refine yv_857 (x := 2) (T := T') hE (by omega) (b := nI (tr_lc K (s'.2.2.1 kk))) (by rw [if_neg (by omega), if_pos rfl, y1]) ?_
          rw [if_pos (by omega), q1, q2, q3]
          exact hp _ _ _ _ _
    · refine ⟨yw_c (tr_e P n) 0 ev_s0 s', by omega, ?_⟩
      have hx := Po.2.2.2 x rfl
      have fin := g2 x rfl (fun T' q1 q2 q3 => ?_)
      · exact fin
      · refine yv_857 (x := x.1) (T := T') hE hx.2.1 (b := nI 0) (by rw [if_neg (by omega), if_neg (by omega)]) ?_
        rw [if_neg (by omega), q1, q2, q3]
        exact hp _ _ _ _ _
  obtain ⟨B', hB, hw⟩ := walk
  -- the loops that clear
  have c2 : ∀ d i f, i + d = 48 → d < f → wY_run_88 post (nI E) (nI 0) (nI 0) (nI 0) (nI 0) (nI 0) (nI (E * 5)) g_cellLimit (nI cl) (nI cm) (nI n) g_holes g_reached f (nI i) b_kinds b_operands b_parents b_s b_p b_rec (re_cz E i b_sets) b_live (rn_F (yw_dn (yv_T0 dn et bi b_fn b_val))) b_fn b_val (rn_F (yw_et (yv_T0 dn et bi b_fn b_val))) (rn_F bi) := by
    intro d
    induction d with
    | zero =>
      intro i f hi hf
      obtain ⟨f, rfl⟩ : ∃ f', f = f' + 1 := ⟨f - 1, by omega⟩
      have e : i = 48 := by omega
      subst e
      exact br_t (by decide) ⟨705602, hw 0 705602 _ (by omega) (by omega)⟩
    | succ d ih =>
      intro i f hi hf
      obtain ⟨f, rfl⟩ : ∃ f', f = f' + 1 := ⟨f - 1, by omega⟩
      refine br_f (nI_ge (b := 48) (by omega) (by decide)) ?_
      rw [ru_48, nI_clamp (n := E * 48 + i) (by omega), re_cz_s]
      exact ⟨vp_in_nI (by omega) (by omega), nm_e (nm_r (nI_1 i) (ih (i + 1) f (by omega) (by omega)))⟩
  have c1 : ∀ d i f, i + d = 2352 → d < f → wY_run_55 post (nI E) (nI 0) (nI 0) (nI 0) (nI 0) (nI 0) (nI (E * 5)) g_cellLimit (nI cl) (nI cm) (nI n) g_holes g_reached f (nI i) b_kinds b_operands b_parents b_s b_p b_rec b_sets b_live (rn_F (fun j => if j < i then 0 else dn j)) b_fn b_val (rn_F (fun j => if j < i then 0 else et j)) (rn_F bi) := by
    intro d
    induction d with
    | zero =>
      intro i f hi hf
      obtain ⟨f, rfl⟩ : ∃ f', f = f' + 1 := ⟨f - 1, by omega⟩
      have e : i = 2352 := by omega
      subst e
      have g := c2 48 0 49 (by omega) (by omega)
      rw [re_cz_0] at g
      exact br_t (by decide) ⟨49, g⟩
    | succ d ih =>
      intro i f hi hf
      obtain ⟨f, rfl⟩ : ∃ f', f = f' + 1 := ⟨f - 1, by omega⟩
      have v : vp_in (nI i) 2352 := vp_in_nI (by omega) (by omega)
      have sh : ∀ g : Nat → Nat, tr_put (fun j => if j < i then 0 else g j) i 0 = (fun j => if j < i + 1 then 0 else g j) := fun g => by
        funext j
        show (if j = i then 0 else if j < i then 0 else g j) = _
        by_cases w : j = i
        · rw [if_pos w, if_pos (by omega)]
        · rw [if_neg w]
          by_cases y : j < i
          · rw [if_pos y, if_pos (by omega)]
          · rw [if_neg y, if_neg (by omega)]
      refine br_f (nI_ge (b := 2352) (by omega) (by decide)) ⟨v, ?_⟩
      rw [nI_clamp (n := i) (by omega), yv_b.2, rn_put, sh]
      have e2 : upd (rn_F (fun j => if j < i then 0 else et j)) i 0 = rn_F (fun j => if j < i + 1 then 0 else et j) := by
        have := rn_put (fun j => if j < i then 0 else et j) i 0
        rw [sh] at this
        exact this
      rw [e2]
      exact nm_e ⟨v, nm_e (nm_r (nI_1 i) (ih (i + 1) f (by omega) (by omega)))⟩
  have g := c1 2352 0 2353 (by omega) (by omega)
  have ed : (fun j => if j < 0 then 0 else dn j) = dn := by funext j; rw [if_neg (by omega)]
  have ee : (fun j => if j < 0 then 0 else et j) = et := by funext j; rw [if_neg (by omega)]
  rw [ed, ee] at g
  exact nm_r (show nI E * 5 = nI (E * 5) from pk_mul E 5) ⟨2353, g⟩
end
