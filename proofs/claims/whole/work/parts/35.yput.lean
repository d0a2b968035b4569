/-! ===== put: what it answers ===== -/
def pu_c (cs n h L k nu lu : Nat) (v : Int32) : Int32 := if k = 0 ∧ (v < 0 ∨ nI nu ≤ v) then -3 else if cs < n + h + tr_ar k then -4 else if (k = 2 ∧ nu = 5) ∨ (3 ≤ k ∧ lu = 5) then -5 else if k = 2 ∧ L = 16 then -6 else nI n
def pu_o (k : Nat) (v : Int32) : Int32 := if k ≤ 1 then v else 0
theorem pu_h {h a : Nat} (hh : 0 < h) (ha : a ≤ 3) (h48 : h ≤ 48) : nI h + (nI a - 1) = nI (h + a - 1) := by
  have e : nI h + (nI a - 1) = nI h + nI a - 1 := by grind
  rw [e, nI_add]
  exact pk_sub (b := 1) (by omega)
section
variable {g_cellLimit g_callLimit g_closureLimit g_nodes g_holes g_reached : Int32} {b_kinds b_operands b_parents b_s b_p b_rec b_sets b_live b_done b_fn b_val b_entered b_bind : Nat → Int32}
variable {cs n h L p : Nat} {K P N Lv S O B : Nat → Nat}
theorem yy_own_l {post : Int32 → SY → Prop} {x1 x2 x4 x5 : Int32} (A : re_A cs n h L K P N Lv S O B) (hk : ∀ m, m < n → b_kinds m = nI (K m) ∧ K m ≤ 6) (hpa : ∀ m, 0 < m → m < n → b_parents m = nI (P m)) (hp : re_p K P n p) (h1 : ∃ f, wY_put_88 post x1 x2 (xp_p n p) g_cellLimit g_callLimit g_closureLimit (nI n) g_holes g_reached b_kinds b_operands b_parents b_s b_p b_rec b_sets b_live b_done b_fn b_val b_entered b_bind f x4 x5 0 (xp_p n p)) : ∀ d c x3 m, c + d = n → d < m → (n = 0 → x3 = -1) → (0 < n → p < c → x3 = nI p) → wY_put_33 post x1 x2 x4 x5 g_cellLimit g_callLimit g_closureLimit (nI n) g_holes g_reached b_kinds b_operands b_parents b_s b_p b_rec b_sets b_live b_done b_fn b_val b_entered b_bind m x3 (nI c) := by
  have hn : n ≤ 48 := by have := A.2.2.1; have := A.2.2.2.1; omega
  intro d
  induction d with
  | zero =>
    intro c x3 m hc hm h0 h2
    obtain ⟨m, rfl⟩ : ∃ m', m = m' + 1 := ⟨m - 1, by omega⟩
    have e : c = n := by omega
    subst e
    have e3 : x3 = xp_p c p := by
      by_cases z : c = 0
      · subst z; exact h0 rfl
      · rw [xp_p1 p (by omega)]
        exact h2 (by omega) (hp (by omega)).1
    subst e3
    exact br_t (nI_le (Nat.le_refl _) (by omega)) h1
  | succ d ih =>
    intro c x3 m hc hm h0 h2
    obtain ⟨m, rfl⟩ : ∃ m', m = m' + 1 := ⟨m - 1, by omega⟩
    obtain ⟨p1, p2, p3⟩ := hp (by omega)
    obtain ⟨k1, k2⟩ := hk c (by omega)
    have a3 := tr_ar_3' (K c)
    refine br_f (nI_ge (by omega) (by omega)) ⟨vp_in_nI (by omega) (by omega), ?_⟩
    rw [nI_clamp (by omega), k1]
    refine yy_arity k2 ?_
    by_cases z : tr_ar (K c) = 0
    · rw [z]
      refine nm_e (br_t (by decide) (nm_r (nI_1 c) ?_))
      refine ih (c + 1) x3 m (by omega) (by omega) (fun w => by omega) (fun _ w => ?_)
      by_cases y : p = c
      · subst y; omega
      · exact h2 (by omega) (by omega)
    · refine nm_r (show nI (tr_ar (K c)) - 1 = nI (tr_ar (K c) - 1) from pk_sub (b := 1) (by omega)) (br_f (nI_pos (by omega)) ?_)
      refine yy_child hn (by omega) hpa A.1 (by omega) (fun q q0 q1 q2 q3 => ?_) (fun w => ?_)
      · refine br_t (nI_pos' (by omega)) (nm_r (nI_1 c) ?_)
        refine ih (c + 1) x3 m (by omega) (by omega) (fun w => by omega) (fun _ w => ?_)
        by_cases y : p = c
        · subst y
          have e1 := tr_cnt_s (P := P) q0 q2
          have e2 := tr_cnt_le (P := P) (p := p) (show q + 1 ≤ n by omega)
          omega
        · exact h2 (by omega) (by omega)
      · refine br_f (by decide) (nm_r (nI_1 c) ?_)
        refine ih (c + 1) (nI c) m (by omega) (by omega) (fun w => by omega) (fun _ y => ?_)
        by_cases e : p = c
        · rw [e]
        · have := p3 c (by omega) (by omega)
          omega
/-- up from the owner: nest and level -/
theorem yy_up_l {post : Int32 → SY → Prop} {x1 x2 x3 : Int32} {nu lu : Nat} (A : re_A cs n h L K P N Lv S O B) (hk : ∀ m, m < n → b_kinds m = nI (K m) ∧ K m ≤ 6) (hpa : ∀ m, 0 < m → m < n → b_parents m = nI (P m)) (hp0 : 0 < n → b_parents 0 = -1) (h1 : wY_put_142 post x1 x2 x3 (nI nu) (nI lu) g_cellLimit g_callLimit g_closureLimit (nI n) g_holes g_reached b_kinds b_operands b_parents b_s b_p b_rec b_sets b_live b_done b_fn b_val b_entered b_bind) (hnu : nu ≤ 5) (hlu : lu ≤ 5) : ∀ f a ns l i, a + 1 < f → i + a < n → a < n → ns + re_nu K N n a = nu → (ns = 0 → l + re_lu K Lv n a = lu) → (0 < ns → l = lu) → wY_put_88 post x1 x2 x3 g_cellLimit g_callLimit g_closureLimit (nI n) g_holes g_reached b_kinds b_operands b_parents b_s b_p b_rec b_sets b_live b_done b_fn b_val b_entered b_bind f (nI ns) (nI l) (nI i) (nI a) := by
  have hn : n ≤ 48 := by have := A.2.2.1; have := A.2.2.2.1; omega
  obtain ⟨Ok, _, _, _, _, _, Nn, _, V, _, _⟩ := A
  intro f
  induction f with
  | zero => intro a ns l i hf; omega
  | succ f ih =>
    intro a ns l i hf hi ha e1 e2 e3
    obtain ⟨k1, k2⟩ := hk a ha
    have n0 : ¬ n = 0 := by omega
    unfold re_nu at e1
    unfold re_lu at e2
    rw [if_neg n0] at e1 e2
    have fin : ∀ (ns' l' : Nat), ns' + N a = nu → (ns' = 0 → l' + Lv a = lu) → (0 < ns' → l' = lu) → wY_put_88 post x1 x2 x3 g_cellLimit g_callLimit g_closureLimit (nI n) g_holes g_reached b_kinds b_operands b_parents b_s b_p b_rec b_sets b_live b_done b_fn b_val b_entered b_bind f (nI ns') (nI l') (nI (i + 1)) (b_parents a) := fun ns' l' g1 g2 g3 => by
      by_cases z : a = 0
      · subst z
        have hN0 := (Nn 0 ha).1 rfl
        have hV0 := (V 0 ha).2.1 rfl
        obtain ⟨f, rfl⟩ : ∃ f', f = f' + 1 := ⟨f - 1, by omega⟩
        rw [hp0 ha]
        have en : ns' = nu := by omega
        have el : l' = lu := by
          rcases Nat.eq_zero_or_pos ns' with y | y
          · have := g2 y; omega
          · exact g3 y
        subst en el
        by_cases y : n ≤ i + 1
        · exact br_t (nI_le y (by omega)) h1
        · exact br_f (nI_ge (by omega) (by omega)) (br_t (by decide) h1)
      · have z' : 0 < a := by omega
        have hP := (Ok a z' ha).1
        have hNa := (Nn a ha).2 z'
        have hVa := (V a ha).2.2 z'
        rw [hpa a z' ha]
        refine ih (P a) ns' l' (i + 1) (by omega) (by omega) (by omega) ?_ (fun y => ?_) g3
        · unfold re_nu
          rw [if_neg n0]
          by_cases k : K (P a) = 2
          · rw [if_pos k] at hNa ⊢; omega
          · rw [if_neg k] at hNa ⊢; omega
        · unfold re_lu
          rw [if_neg n0]
          have := g2 y
          by_cases k : K (P a) = 2
          · rw [if_pos k] at hVa ⊢; omega
          · rw [if_neg k] at hVa ⊢; omega
    refine br_f (nI_ge (by omega) (by omega)) (br_f (nI_pos (by omega)) ⟨vp_in_nI (by omega) (by omega), ?_⟩)
    rw [nI_clamp (by omega), k1]
    by_cases z : K a = 2
    · rw [if_pos z] at e1 e2
      rw [z]
      refine br_t rfl (nm_r (nI_1 ns) (nm_r (nI_1 i) ⟨vp_in_nI (by omega) (by omega), nm_e ?_⟩))
      refine fin (ns + 1) l (by omega) (fun y => by omega) (fun _ => ?_)
      rcases Nat.eq_zero_or_pos ns with y | y
      · have := e2 y; omega
      · exact e3 y
    · rw [if_neg z] at e1 e2
      refine br_f (fun q => z ((nI_eq (b := 2) (by omega) (by decide)).mp q)) ?_
      rcases Nat.eq_zero_or_pos ns with y | y
      · subst y
        refine br_t rfl (nm_r (nI_1 l) (nm_r (nI_1 i) ⟨vp_in_nI (by omega) (by omega), nm_e ?_⟩))
        exact fin 0 (l + 1) e1 (fun _ => by have := e2 rfl; omega) (fun w => by omega)
      · refine br_f (nI_ne0 y (by omega)) (nm_r (nI_1 i) ⟨vp_in_nI (by omega) (by omega), nm_e ?_⟩)
        exact fin ns l e1 (fun w => by omega) (fun _ => e3 y)
theorem yy_put_l {post : Int32 → SY → Prop} {k : Nat} {v : Int32} (A : re_A cs n h L K P N Lv S O B) (hk6 : k ≤ 6) (hh : 0 < h) (hk : ∀ m, m < n → b_kinds m = nI (K m) ∧ K m ≤ 6) {nu lu : Nat} (hnu : nu ≤ 5) (hlu : lu ≤ 5)
    (h1 : ∀ r, r = pu_c cs n h L k nu lu v → r < 0 → post r ((nI cs), g_callLimit, g_closureLimit, (nI n), (nI h), g_reached, b_kinds, b_operands, b_parents, b_s, b_p, b_rec, b_sets, b_live, b_done, b_fn, b_val, b_entered, b_bind))
    (h2 : pu_c cs n h L k nu lu v = nI n → post (nI n) ((nI cs), g_callLimit, g_closureLimit, (nI (n + 1)), (nI (h + tr_ar k - 1)), g_reached, (upd b_kinds n (nI k)), (upd b_operands n (pu_o k v)), (upd b_parents n (xp_p n p)), b_s, b_p, b_rec, b_sets, b_live, b_done, b_fn, b_val, b_entered, b_bind)) :
    wY_put_142 post (nI k) v (xp_p n p) (nI nu) (nI lu) (nI cs) g_callLimit g_closureLimit (nI n) (nI h) g_reached b_kinds b_operands b_parents b_s b_p b_rec b_sets b_live b_done b_fn b_val b_entered b_bind := by
  have hb := A.2.2.1
  have hcs := A.2.2.2.1
  have hL := A.2.2.2.2.1
  have hL16 := A.2.2.2.2.2.1
  have a3 := tr_ar_3' k
  have lit : ∀ {b : Nat}, b < 2 ^ 31 → nI k = nI b → k = b := fun hb w => (nI_eq (by omega) hb).mp w
  have n159 : ¬ (k = 0 ∧ (v < 0 ∨ nI nu ≤ v)) → wY_put_159 post (nI k) v (xp_p n p) (nI nu) (nI lu) (nI cs) g_callLimit g_closureLimit (nI n) (nI h) g_reached b_kinds b_operands b_parents b_s b_p b_rec b_sets b_live b_done b_fn b_val b_entered b_bind := fun c1 => by
    unfold wY_put_159
    refine yy_arity hk6 ?_
    rw [nI_add, nI_add]
    by_cases c2 : cs < n + h + tr_ar k
    · refine br_f (nI_ge c2 (by omega)) (h1 (-4) ?_ (by decide))
      unfold pu_c
      rw [if_neg c1, if_pos c2]
    refine br_t (nI_le (by omega) (by omega)) ?_
    have n195 : ¬ (3 ≤ k ∧ lu = 5) → wY_put_195 post (nI k) v (xp_p n p) (nI nu) (nI cs) g_callLimit g_closureLimit (nI n) (nI h) g_reached b_kinds b_operands b_parents b_s b_p b_rec b_sets b_live b_done b_fn b_val b_entered b_bind := fun c3 => by
      have n226 : ¬ (k = 2 ∧ nu = 5) → ¬ (k = 2 ∧ L = 16) → wY_put_226 post (nI k) v (xp_p n p) (nI cs) g_callLimit g_closureLimit (nI n) (nI h) g_reached b_kinds b_operands b_parents b_s b_p b_rec b_sets b_live b_done b_fn b_val b_entered b_bind := fun c4 c5 => by
        have e : pu_c cs n h L k nu lu v = nI n := by
          unfold pu_c
          rw [if_neg c1, if_neg c2, if_neg (by rintro (z | z); exact c4 z; exact c3 z), if_neg c5]
        have hi : vp_in (nI n) 48 := vp_in_nI (by omega) (by omega)
        have hc := nI_clamp (n := n) (by omega)
        refine ⟨hi, nm_e ⟨hi, nm_e ?_⟩⟩
        rw [hc]
        have last : ∀ w : Int32, w = pu_o k v → wY_put_264 post (nI k) w (nI n) (nI cs) g_callLimit g_closureLimit (nI n) (nI h) g_reached (upd b_kinds n (nI k)) b_operands (upd b_parents n (xp_p n p)) b_s b_p b_rec b_sets b_live b_done b_fn b_val b_entered b_bind := fun w hw => by
          refine ⟨hi, nm_e ?_⟩
          rw [hc, hw]
          refine yy_arity hk6 (nm_r (pu_h hh a3 (by omega)) (nm_r (nI_1 n) ?_))
          exact h2 e
        by_cases y : k ≤ 1
        · exact br_f (nI_nlt (a := 1) (by omega) (by decide)) (last v (if_pos y).symm)
        · exact br_t (nI_lt (a := 1) (by omega) (by omega)) (last 0 (if_neg y).symm)
      by_cases y : k = 2
      · subst y
        refine br_t rfl ?_
        by_cases x : nu = 5
        · subst x
          refine br_f (by decide) (h1 (-5) ?_ (by decide))
          unfold pu_c
          rw [if_neg c1, if_neg c2, if_pos (Or.inl ⟨rfl, rfl⟩)]
        · refine br_t (nI_lt (b := 5) (by omega) (by decide)) (br_t rfl ?_)
          refine yy_lambdaNode (by omega) hk (fun m hm km e => ?_) (fun w => ?_)
          · refine br_f (nI_pos (by omega)) (h1 (-6) ?_ (by decide))
            have lm := tr_lc_lt hm km
            have e15 : 15 = tr_lc K m := (nI_eq (a := 15) (by decide) (by omega)).mp e
            unfold pu_c
            rw [if_neg c1, if_neg c2, if_neg (by rintro (z | z); exact x z.2; omega), if_pos ⟨rfl, by omega⟩]
          · refine br_t (by decide) (n226 (fun z => x z.2) (fun z => ?_))
            obtain ⟨m, m1, m2, m3⟩ := tr_lc_find (K := K) (l := 15) n (by omega)
            exact w m m1 m2 (by rw [m3]; rfl)
      · exact br_f (fun w => y (lit (b := 2) (by decide) w)) (br_f (fun w => y (lit (b := 2) (by decide) w)) (n226 (fun z => y z.1) (fun z => y z.1)))
    by_cases y : 3 ≤ k
    · refine br_f (nI_nlt (b := 3) y (by omega)) ?_
      by_cases x : lu = 5
      · subst x
        refine br_t (by decide) (h1 (-5) ?_ (by decide))
        unfold pu_c
        rw [if_neg c1, if_neg c2, if_pos (Or.inr ⟨y, rfl⟩)]
      · exact br_f (nI_ge (b := 5) (by omega) (by decide)) (n195 (fun z => x z.2))
    · exact br_t (nI_lt (b := 3) (by omega) (by decide)) (n195 (fun z => y z.1))
  by_cases y : k = 0
  · subst y
    refine br_t rfl (br_c (fun z => ?_) (fun z => ?_))
    · refine h1 (-3) ?_ (by decide)
      unfold pu_c
      rw [if_pos ⟨rfl, Or.inl z⟩]
    · refine br_c (fun x => n159 ?_) (fun x => ?_)
      · rintro ⟨_, w | w⟩
        · exact z w
        · exact absurd x (Int32.not_lt.mpr w)
      · refine h1 (-3) ?_ (by decide)
        unfold pu_c
        rw [if_pos ⟨rfl, Or.inr (Int32.not_lt.mp x)⟩]
  · exact br_f (fun w => y (lit (b := 0) (by decide) w)) (n159 (fun z => y z.1))
theorem yy_put {post : Int32 → SY → Prop} {k : Nat} {v : Int32} (A : re_A cs n h L K P N Lv S O B) (hk6 : k ≤ 6) (hh : 0 < h) (hk : ∀ m, m < n → b_kinds m = nI (K m) ∧ K m ≤ 6) (hpa : ∀ m, 0 < m → m < n → b_parents m = nI (P m)) (hp0 : 0 < n → b_parents 0 = -1) (hp : re_p K P n p)
    (h1 : ∀ r, r = pu_c cs n h L k (re_nu K N n p) (re_lu K Lv n p) v → r < 0 → post r ((nI cs), g_callLimit, g_closureLimit, (nI n), (nI h), g_reached, b_kinds, b_operands, b_parents, b_s, b_p, b_rec, b_sets, b_live, b_done, b_fn, b_val, b_entered, b_bind))
    (h2 : pu_c cs n h L k (re_nu K N n p) (re_lu K Lv n p) v = nI n → post (nI n) ((nI cs), g_callLimit, g_closureLimit, (nI (n + 1)), (nI (h + tr_ar k - 1)), g_reached, (upd b_kinds n (nI k)), (upd b_operands n (pu_o k v)), (upd b_parents n (xp_p n p)), b_s, b_p, b_rec, b_sets, b_live, b_done, b_fn, b_val, b_entered, b_bind)) :
    wpY_put post ((nI cs), g_callLimit, g_closureLimit, (nI n), (nI h), g_reached, b_kinds, b_operands, b_parents, b_s, b_p, b_rec, b_sets, b_live, b_done, b_fn, b_val, b_entered, b_bind) (nI k) v := by
  have hb := A.2.2.1
  have hcs := A.2.2.2.1
  obtain ⟨u1, u2, u3⟩ := re_nu_5 A hp
  have hl := yy_put_l (p := p) (v := v) A hk6 hh hk u1 u2 h1 h2
  refine br_f (nI_pos (by omega)) (br_t (nI_le (b := 6) hk6 (by decide)) (br_f (nI_ne0 hh (by omega)) ⟨n + 1, ?_⟩))
  refine yy_own_l A hk hpa hp ?_ n 0 (-1) (n + 1) (by omega) (by omega) (fun _ => rfl) (fun _ w => absurd w (Nat.not_lt_zero p))
  by_cases z : n = 0
  · subst z
    exact ⟨1, br_t (by decide) hl⟩
  · have z' : 0 < n := by omega
    have p1 := (hp z').1
    rw [xp_p1 p z'] at hl ⊢
    exact ⟨p + 2, yy_up_l A hk hpa hp0 hl u1 u2 (p + 2) p 0 0 0 (by omega) (by omega) p1 (by omega) (fun _ => by omega) (fun w => by omega)⟩
end
