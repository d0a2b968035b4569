/-! ===== the tree as the evaluator sees it ===== -/
def tr_C (K e N : Nat → Nat) (n : Nat) : Prop := ∀ p, p < n → (K p = 2 → N (p + 1) = N p + 1) ∧ (3 ≤ K p → N (p + 1) = N p ∧ N (e (p + 1)) = N p ∧ (K p = 6 → N (e (e (p + 1))) = N p))
def ev_T (K e N ix : Nat → Nat) (n : Nat) : Prop := tr_T K e n ∧ tr_C K e N n ∧ n ≤ 48 ∧ (∀ m, m < n → K m ≤ 6) ∧ (∀ m, m < n → K m = 0 → ix m < N m)
theorem tr_ar_0 {k : Nat} (h : k < 2) : tr_ar k = 0 := by
  unfold tr_ar; rw [if_neg (by omega), if_neg (by omega), if_neg (by omega)]
theorem tr_ar_1 {k : Nat} (h : k = 2) : tr_ar k = 1 := by
  unfold tr_ar; rw [if_pos h]
theorem tr_ar_2 {k : Nat} (h : 3 ≤ k) (h6 : k ≠ 6) : tr_ar k = 2 := by
  unfold tr_ar; rw [if_neg (by omega), if_neg h6, if_pos h]
theorem tr_ar_3 {k : Nat} (h : k = 6) : tr_ar k = 3 := by
  unfold tr_ar; rw [if_neg (by omega), if_pos h]
theorem tr_k0 {K e : Nat → Nat} {n p : Nat} (T : tr_T K e n) (hp : p < n) (h : K p < 2) : e p = p + 1 := (T p hp).2.2.1 (tr_ar_0 h)
theorem tr_k2 {K e : Nat → Nat} {n p : Nat} (T : tr_T K e n) (hp : p < n) (h : K p = 2) : p + 1 < n ∧ p + 1 < e (p + 1) ∧ e (p + 1) ≤ n ∧ e p = e (p + 1) := by
  obtain ⟨a1, a2⟩ := (T p hp).2.2.2.1 (tr_ar_1 h)
  exact ⟨a1, (T _ a1).1, (T _ a1).2.1, a2⟩
theorem tr_k3 {K e : Nat → Nat} {n p : Nat} (T : tr_T K e n) (hp : p < n) (h : 3 ≤ K p) (h6 : K p ≠ 6) : p + 1 < n ∧ p + 1 < e (p + 1) ∧ e (p + 1) < n ∧ e (p + 1) < e (e (p + 1)) ∧ e (e (p + 1)) ≤ n ∧ e p = e (e (p + 1)) := by
  obtain ⟨a1, a2, a3⟩ := (T p hp).2.2.2.2.1 (tr_ar_2 h h6)
  exact ⟨a1, (T _ a1).1, a2, (T _ a2).1, (T _ a2).2.1, a3⟩
theorem tr_k6 {K e : Nat → Nat} {n p : Nat} (T : tr_T K e n) (hp : p < n) (h : K p = 6) : p + 1 < n ∧ p + 1 < e (p + 1) ∧ e (p + 1) < n ∧ e (p + 1) < e (e (p + 1)) ∧ e (e (p + 1)) < n ∧ e (e (p + 1)) < e (e (e (p + 1))) ∧ e (e (e (p + 1))) ≤ n ∧ e p = e (e (e (p + 1))) := by
  obtain ⟨a1, a2, a3, a4⟩ := (T p hp).2.2.2.2.2 (tr_ar_3 h)
  exact ⟨a1, (T _ a1).1, a2, (T _ a2).1, a3, (T _ a3).1, (T _ a3).2.1, a4⟩
/-! ===== states in order ===== -/
def ev_ok (c : Nat) (v : ev_V) : Prop := ∀ k, v = .inr k → k < c
def ev_W (K N : Nat → Nat) (n cl cm : Nat) (s : ev_S) : Prop := s.1 ≤ cl ∧ s.2.1 ≤ cm ∧ ∀ k, k < s.2.1 → s.2.2.1 k < n ∧ K (s.2.2.1 k) = 2 ∧ ∀ i, i < N (s.2.2.1 k) → ev_ok s.2.1 (s.2.2.2.1 k i)
def ev_E (N : Nat → Nat) (m : Nat) (env : Nat → ev_V) (s : ev_S) : Prop := ∀ i, i < N m → ev_ok s.2.1 (env i)
def ev_X (s s' : ev_S) : Prop := s.1 ≤ s'.1 ∧ s.2.1 ≤ s'.2.1 ∧ ∀ k, k < s.2.1 → s'.2.2.1 k = s.2.2.1 k ∧ s'.2.2.2.1 k = s.2.2.2.1 k
def ev_Pre (K e N : Nat → Nat) (n cl cm f : Nat) (env : Nat → ev_V) (m : Nat) (s : ev_S) : Prop := m < n ∧ 48 * (cl - s.1) + (e m - m) ≤ f ∧ ev_W K N n cl cm s ∧ ev_E N m env s
def ev_Post (K N : Nat → Nat) (n cl cm : Nat) (s : ev_S) (r : ev_R) (s' : ev_S) : Prop := ev_W K N n cl cm s' ∧ ev_X s s' ∧ (∀ v, r = .inl v → ev_ok s'.2.1 v) ∧ (∀ x, r = .inr x → 3 ≤ x.1 ∧ x.1 ≤ 5 ∧ x.2 < n)
theorem ev_ok_up {c d : Nat} {v : ev_V} (h : ev_ok c v) (hd : c ≤ d) : ev_ok d v := fun k e => Nat.lt_of_lt_of_le (h k e) hd
theorem ev_ok_n (c : Nat) (i : Int32) : ev_ok c (.inl i) := fun _ e => nomatch e
theorem ev_E_up {N : Nat → Nat} {m m' : Nat} {env : Nat → ev_V} {s s' : ev_S} (h : ev_E N m env s) (hN : N m' = N m) (x : ev_X s s') : ev_E N m' env s' := fun i hi => ev_ok_up (h i (by omega)) x.2.1
theorem ev_X_r (s : ev_S) : ev_X s s := ⟨Nat.le_refl _, Nat.le_refl _, fun _ _ => ⟨rfl, rfl⟩⟩
theorem ev_X_t {s t u : ev_S} (h : ev_X s t) (g : ev_X t u) : ev_X s u :=
  ⟨Nat.le_trans h.1 g.1, Nat.le_trans h.2.1 g.2.1, fun k hk => by
    have a := h.2.2 k hk
    have b := g.2.2 k (Nat.lt_of_lt_of_le hk h.2.1)
    exact ⟨b.1.trans a.1, b.2.trans a.2⟩⟩
theorem ev_clo_X (n : Nat) (env : Nat → ev_V) (s : ev_S) : ev_X s (ev_clo n env s) :=
  ⟨Nat.le_refl _, Nat.le_succ _, fun k hk => ⟨if_neg (by omega), if_neg (by omega)⟩⟩
theorem ev_clo_W {K N : Nat → Nat} {n cl cm m : Nat} {env : Nat → ev_V} {s : ev_S} (W : ev_W K N n cl cm s) (hm : m < n) (hk : K m = 2) (hc : s.2.1 ≠ cm) (E : ev_E N m env s) : ev_W K N n cl cm (ev_clo m env s) := by
  obtain ⟨w1, w2, w3⟩ := W
  refine ⟨w1, show s.2.1 + 1 ≤ cm by omega, fun k hk' => ?_⟩
  have hk2 : k < s.2.1 + 1 := hk'
  show (if k = s.2.1 then m else s.2.2.1 k) < n ∧ K (if k = s.2.1 then m else s.2.2.1 k) = 2 ∧ ∀ i, i < N (if k = s.2.1 then m else s.2.2.1 k) → ev_ok (s.2.1 + 1) ((if k = s.2.1 then env else s.2.2.2.1 k) i)
  by_cases z : k = s.2.1
  · rw [if_pos z, if_pos z]
    exact ⟨hm, hk, fun i hi => ev_ok_up (E i hi) (Nat.le_succ _)⟩
  · rw [if_neg z, if_neg z]
    obtain ⟨a, b, c⟩ := w3 k (by omega)
    exact ⟨a, b, fun i hi => ev_ok_up (c i hi) (Nat.le_succ _)⟩
theorem ev_call_X (bm : Nat → Int32) (m k : Nat) (s : ev_S) : ev_X s (ev_call bm m k s) := ⟨Nat.le_succ _, Nat.le_refl _, fun _ _ => ⟨rfl, rfl⟩⟩
theorem ev_call_W {K N : Nat → Nat} {bm : Nat → Int32} {n cl cm m k : Nat} {s : ev_S} (W : ev_W K N n cl cm s) (hc : s.1 ≠ cl) : ev_W K N n cl cm (ev_call bm m k s) := by
  obtain ⟨w1, w2, w3⟩ := W
  exact ⟨show s.1 + 1 ≤ cl by omega, w2, w3⟩
theorem ev_env_E {K N : Nat → Nat} {bm : Nat → Int32} {n cl cm m k a : Nat} {w : ev_V} {s : ev_S} (W : ev_W K N n cl cm s) (hk : k < s.2.1) (ha : s.2.2.1 k = a) (hN : N (a + 1) = N a + 1) (hw : ev_ok s.2.1 w) : ev_E N (a + 1) (ev_env N k w s) (ev_call bm m k s) := by
  intro i hi
  show ev_ok s.2.1 (if i = N (s.2.2.1 k) then w else s.2.2.2.1 k i)
  by_cases z : i = N (s.2.2.1 k)
  · rw [if_pos z]; exact hw
  · rw [if_neg z]
    refine (W.2.2 k hk).2.2 i ?_
    rw [ha] at z ⊢
    omega
/-! the induction over states in order: every case is given what is known of them -/
theorem ev_ind2 (K e N ix : Nat → Nat) (op bm : Nat → Int32) (cl cm n : Nat) (T : ev_T K e N ix n)
    (M : Nat → (Nat → ev_V) → Nat → ev_S → ev_R → ev_S → Prop)
    (cvar : ∀ f env m s, ev_Pre K e N n cl cm (f + 1) env m s → K m = 0 → M (f + 1) env m s (.inl (env (ix m))) s)
    (cnum : ∀ f env m s, ev_Pre K e N n cl cm (f + 1) env m s → K m = 1 → M (f + 1) env m s (.inl (.inl (op m))) s)
    (clamF : ∀ f env m (s : ev_S), ev_Pre K e N n cl cm (f + 1) env m s → K m = 2 → s.2.1 = cm → M (f + 1) env m s (.inr (5, m)) s)
    (clam : ∀ f env m (s : ev_S), ev_Pre K e N n cl cm (f + 1) env m s → K m = 2 → s.2.1 ≠ cm → M (f + 1) env m s (.inl (.inr s.2.1)) (ev_clo m env s))
    (ce0 : ∀ f env m s x s1, ev_Pre K e N n cl cm (f + 1) env m s → 3 ≤ K m → ev_Pre K e N n cl cm f env (m + 1) s → ev_Post K N n cl cm s (.inr x) s1 → M f env (m + 1) s (.inr x) s1 → M (f + 1) env m s (.inr x) s1)
    (cifS : ∀ f env m s k s1, ev_Pre K e N n cl cm (f + 1) env m s → K m = 6 → ev_Pre K e N n cl cm f env (m + 1) s → ev_Post K N n cl cm s (.inl (.inr k)) s1 → M f env (m + 1) s (.inl (.inr k)) s1 → M (f + 1) env m s (.inr (3, m)) s1)
    (cif : ∀ f env m s i s1 r s2, ev_Pre K e N n cl cm (f + 1) env m s → K m = 6 → ev_Pre K e N n cl cm f env (m + 1) s → ev_Post K N n cl cm s (.inl (.inl i)) s1 → ev_Pre K e N n cl cm f env (if i = 0 then e (m + 1) else e (e (m + 1))) s1 → ev_Post K N n cl cm s1 r s2 → M f env (m + 1) s (.inl (.inl i)) s1 → M f env (if i = 0 then e (m + 1) else e (e (m + 1))) s1 r s2 → M (f + 1) env m s r s2)
    (ce1 : ∀ f env m s v s1 x s2, ev_Pre K e N n cl cm (f + 1) env m s → 3 ≤ K m → K m ≠ 6 → ev_Pre K e N n cl cm f env (m + 1) s → ev_Post K N n cl cm s (.inl v) s1 → ev_Pre K e N n cl cm f env (e (m + 1)) s1 → ev_Post K N n cl cm s1 (.inr x) s2 → M f env (m + 1) s (.inl v) s1 → M f env (e (m + 1)) s1 (.inr x) s2 → M (f + 1) env m s (.inr x) s2)
    (cappS : ∀ f env m s i s1 w s2, ev_Pre K e N n cl cm (f + 1) env m s → K m = 3 → ev_Pre K e N n cl cm f env (m + 1) s → ev_Post K N n cl cm s (.inl (.inl i)) s1 → ev_Pre K e N n cl cm f env (e (m + 1)) s1 → ev_Post K N n cl cm s1 (.inl w) s2 → M f env (m + 1) s (.inl (.inl i)) s1 → M f env (e (m + 1)) s1 (.inl w) s2 → M (f + 1) env m s (.inr (3, m)) s2)
    (cappC : ∀ f env m s k s1 w (s2 : ev_S), ev_Pre K e N n cl cm (f + 1) env m s → K m = 3 → s2.1 = cl → ev_Pre K e N n cl cm f env (m + 1) s → ev_Post K N n cl cm s (.inl (.inr k)) s1 → ev_Pre K e N n cl cm f env (e (m + 1)) s1 → ev_Post K N n cl cm s1 (.inl w) s2 → M f env (m + 1) s (.inl (.inr k)) s1 → M f env (e (m + 1)) s1 (.inl w) s2 → M (f + 1) env m s (.inr (4, m)) s2)
    (capp : ∀ f env m s k s1 w (s2 : ev_S) r s3, ev_Pre K e N n cl cm (f + 1) env m s → K m = 3 → s2.1 ≠ cl → ev_Pre K e N n cl cm f env (m + 1) s → ev_Post K N n cl cm s (.inl (.inr k)) s1 → ev_Pre K e N n cl cm f env (e (m + 1)) s1 → ev_Post K N n cl cm s1 (.inl w) s2 → ev_Pre K e N n cl cm f (ev_env N k w s2) (s2.2.2.1 k + 1) (ev_call bm m k s2) → ev_Post K N n cl cm (ev_call bm m k s2) r s3 → M f env (m + 1) s (.inl (.inr k)) s1 → M f env (e (m + 1)) s1 (.inl w) s2 → M f (ev_env N k w s2) (s2.2.2.1 k + 1) (ev_call bm m k s2) r s3 → M (f + 1) env m s r s3)
    (csum : ∀ f env m s i s1 j s2, ev_Pre K e N n cl cm (f + 1) env m s → (K m = 4 ∨ K m = 5) → ev_Pre K e N n cl cm f env (m + 1) s → ev_Post K N n cl cm s (.inl (.inl i)) s1 → ev_Pre K e N n cl cm f env (e (m + 1)) s1 → ev_Post K N n cl cm s1 (.inl (.inl j)) s2 → M f env (m + 1) s (.inl (.inl i)) s1 → M f env (e (m + 1)) s1 (.inl (.inl j)) s2 → M (f + 1) env m s (.inl (.inl (if K m = 4 then i + j else i - j))) s2)
    (csumS : ∀ f env m s v s1 w s2, ev_Pre K e N n cl cm (f + 1) env m s → (K m = 4 ∨ K m = 5) → ((∃ k, v = .inr k) ∨ (∃ k, w = .inr k)) → ev_Pre K e N n cl cm f env (m + 1) s → ev_Post K N n cl cm s (.inl v) s1 → ev_Pre K e N n cl cm f env (e (m + 1)) s1 → ev_Post K N n cl cm s1 (.inl w) s2 → M f env (m + 1) s (.inl v) s1 → M f env (e (m + 1)) s1 (.inl w) s2 → M (f + 1) env m s (.inr (3, m)) s2) :
    ∀ f env m s, ev_Pre K e N n cl cm f env m s → M f env m s (ev_al K e N ix op bm cl cm f env m s).1 (ev_al K e N ix op bm cl cm f env m s).2 ∧ ev_Post K N n cl cm s (ev_al K e N ix op bm cl cm f env m s).1 (ev_al K e N ix op bm cl cm f env m s).2 := by
  obtain ⟨T1, T2, T3, T4, T5⟩ := T
  -- the first child, the second child, a branch
  have q1 : ∀ f env m s, ev_Pre K e N n cl cm (f + 1) env m s → 3 ≤ K m → ev_Pre K e N n cl cm f env (m + 1) s := by
    intro f env m s ⟨p1, p2, p3, p4⟩ k
    have hN := ((T2 m p1).2 k).1
    have hs : m + 1 < n ∧ e (m + 1) ≤ e m ∧ m < e m := by
      by_cases k6 : K m = 6
      · have := tr_k6 T1 p1 k6; have := (T1 m p1).1; omega
      · have := tr_k3 T1 p1 k k6; have := (T1 m p1).1; omega
    exact ⟨hs.1, by omega, p3, ev_E_up p4 hN (ev_X_r s)⟩
  have q2 : ∀ f env m s (v : ev_V) s1, ev_Pre K e N n cl cm (f + 1) env m s → 3 ≤ K m → ev_Post K N n cl cm s (.inl v) s1 → ev_Pre K e N n cl cm f env (e (m + 1)) s1 := by
    intro f env m s v s1 ⟨p1, p2, p3, p4⟩ k ⟨w1, w2, _, _⟩
    have hN := ((T2 m p1).2 k).2.1
    have hs : e (m + 1) < n ∧ e (e (m + 1)) ≤ e m ∧ m < e (m + 1) ∧ e (m + 1) < e (e (m + 1)) := by
      by_cases k6 : K m = 6
      · have := tr_k6 T1 p1 k6; omega
      · have := tr_k3 T1 p1 k k6; omega
    have hc := w2.1
    exact ⟨hs.1, by omega, w1, ev_E_up p4 hN w2⟩
  have q3 : ∀ f env m s (v : ev_V) s1 (i : Int32), ev_Pre K e N n cl cm (f + 1) env m s → K m = 6 → ev_Post K N n cl cm s (.inl v) s1 → ev_Pre K e N n cl cm f env (if i = 0 then e (m + 1) else e (e (m + 1))) s1 := by
    intro f env m s v s1 i P k Q
    by_cases z : i = 0
    · rw [if_pos z]; exact q2 f env m s v s1 P (by omega) Q
    · rw [if_neg z]
      obtain ⟨p1, p2, p3, p4⟩ := P
      obtain ⟨w1, w2, _, _⟩ := Q
      have hN := ((T2 m p1).2 (by omega)).2.2 k
      have hs := tr_k6 T1 p1 k
      have hc := w2.1
      exact ⟨by omega, by omega, w1, ev_E_up p4 hN w2⟩
  have x1 : ∀ m, m < n → ∀ a, 3 ≤ a → a ≤ 5 → ∀ x : Nat × Nat, (Sum.inr (a, m) : ev_R) = .inr x → 3 ≤ x.1 ∧ x.1 ≤ 5 ∧ x.2 < n := by
    intro m hm a h1 h2 x e
    cases e
    exact ⟨h1, h2, hm⟩
  have nl : ∀ {P : Prop} {v : ev_V} {x : Nat × Nat}, (Sum.inl v : ev_R) = .inr x → P := fun e => nomatch e
  have nr : ∀ {P : Prop} {v : ev_V} {x : Nat × Nat}, (Sum.inr x : ev_R) = .inl v → P := fun e => nomatch e
  refine ev_ind K e N ix op bm cl cm (fun f env m s r s' => ev_Pre K e N n cl cm f env m s → M f env m s r s' ∧ ev_Post K N n cl cm s r s') ?_ ?_ ?_ ?_ ?_ ?_ ?_ ?_ ?_ ?_ ?_ ?_ ?_ ?_
  · intro env m s ⟨p1, p2, _, _⟩
    have := (T1 m p1).1
    omega
  · intro f env m s k P
    exact ⟨cvar f env m s P k, P.2.2.1, ev_X_r s, fun v h => by cases h; exact P.2.2.2 _ (T5 m P.1 k), fun x h => nl h⟩
  · intro f env m s k P
    exact ⟨cnum f env m s P k, P.2.2.1, ev_X_r s, fun v h => by cases h; exact ev_ok_n _ _, fun x h => nl h⟩
  · intro f env m s k hc P
    exact ⟨clamF f env m s P k hc, P.2.2.1, ev_X_r s, fun v h => nr h, x1 m P.1 5 (by omega) (by omega)⟩
  · intro f env m s k hc P
    exact ⟨clam f env m s P k hc, ev_clo_W P.2.2.1 P.1 k hc P.2.2.2, ev_clo_X m env s, fun v h => by cases h; exact fun j hj => by cases hj; exact Nat.lt_succ_self _, fun x h => nl h⟩
  · intro f env m s x s1 k h1 P
    have A := q1 f env m s P k
    obtain ⟨m1, g1⟩ := h1 A
    exact ⟨ce0 f env m s x s1 P k A g1 m1, g1⟩
  · intro f env m s k s1 k6 h1 P
    have A := q1 f env m s P (by omega)
    obtain ⟨m1, g1⟩ := h1 A
    exact ⟨cifS f env m s k s1 P k6 A g1 m1, g1.1, g1.2.1, fun v h => nr h, x1 m P.1 3 (by omega) (by omega)⟩
  · intro f env m s i s1 r s2 k6 h1 h2 P
    have A := q1 f env m s P (by omega)
    obtain ⟨m1, g1⟩ := h1 A
    have B := q3 f env m s _ s1 i P k6 g1
    obtain ⟨m2, g2⟩ := h2 B
    exact ⟨cif f env m s i s1 r s2 P k6 A g1 B g2 m1 m2, g2.1, ev_X_t g1.2.1 g2.2.1, g2.2.2⟩
  · intro f env m s v s1 x s2 k k6 h1 h2 P
    have A := q1 f env m s P k
    obtain ⟨m1, g1⟩ := h1 A
    have B := q2 f env m s v s1 P k g1
    obtain ⟨m2, g2⟩ := h2 B
    exact ⟨ce1 f env m s v s1 x s2 P k k6 A g1 B g2 m1 m2, g2.1, ev_X_t g1.2.1 g2.2.1, g2.2.2⟩
  · intro f env m s i s1 w s2 k h1 h2 P
    have A := q1 f env m s P (by omega)
    obtain ⟨m1, g1⟩ := h1 A
    have B := q2 f env m s _ s1 P (by omega) g1
    obtain ⟨m2, g2⟩ := h2 B
    exact ⟨cappS f env m s i s1 w s2 P k A g1 B g2 m1 m2, g2.1, ev_X_t g1.2.1 g2.2.1, fun v h => nr h, x1 m P.1 3 (by omega) (by omega)⟩
  · intro f env m s j s1 w s2 k hc h1 h2 P
    have A := q1 f env m s P (by omega)
    obtain ⟨m1, g1⟩ := h1 A
    have B := q2 f env m s _ s1 P (by omega) g1
    obtain ⟨m2, g2⟩ := h2 B
    exact ⟨cappC f env m s j s1 w s2 P k hc A g1 B g2 m1 m2, g2.1, ev_X_t g1.2.1 g2.2.1, fun v h => nr h, x1 m P.1 4 (by omega) (by omega)⟩
  · intro f env m s j s1 w s2 r s3 k hc h1 h2 h3 P
    have A := q1 f env m s P (by omega)
    obtain ⟨m1, g1⟩ := h1 A
    have B := q2 f env m s _ s1 P (by omega) g1
    obtain ⟨m2, g2⟩ := h2 B
    have hj : j < s2.2.1 := Nat.lt_of_lt_of_le (g1.2.2.1 _ rfl j rfl) g2.2.1.2.1
    obtain ⟨b1, b2, b3⟩ := g2.1.2.2 j hj
    have hb := tr_k2 T1 b1 b2
    have C : ev_Pre K e N n cl cm f (ev_env N j w s2) (s2.2.2.1 j + 1) (ev_call bm m j s2) := by
      refine ⟨hb.1, ?_, ev_call_W g2.1 hc, ev_env_E g2.1 hj rfl ((T2 _ b1).1 b2) (g2.2.2.1 _ rfl)⟩
      show 48 * (cl - (s2.1 + 1)) + _ ≤ f
      have h4 := g1.2.1.1
      have h5 := g2.2.1.1
      have h6 := g2.1.1
      have h7 := P.2.1
      have h8 := (T1 m P.1).1
      omega
    obtain ⟨m3, g3⟩ := h3 C
    exact ⟨capp f env m s j s1 w s2 r s3 P k hc A g1 B g2 C g3 m1 m2 m3, g3.1, ev_X_t (ev_X_t g1.2.1 g2.2.1) (ev_X_t (ev_call_X bm m j s2) g3.2.1), g3.2.2⟩
  · intro f env m s i s1 j s2 k h1 h2 P
    have k5 := T4 m P.1
    have A := q1 f env m s P (by omega)
    obtain ⟨m1, g1⟩ := h1 A
    have B := q2 f env m s _ s1 P (by omega) g1
    obtain ⟨m2, g2⟩ := h2 B
    exact ⟨csum f env m s i s1 j s2 P (by omega) A g1 B g2 m1 m2, g2.1, ev_X_t g1.2.1 g2.2.1, fun v h => by cases h; exact ev_ok_n _ _, fun x h => nl h⟩
  · intro f env m s v s1 w s2 k hv h1 h2 P
    have k5 := T4 m P.1
    have A := q1 f env m s P (by omega)
    obtain ⟨m1, g1⟩ := h1 A
    have B := q2 f env m s v s1 P (by omega) g1
    obtain ⟨m2, g2⟩ := h2 B
    exact ⟨csumS f env m s v s1 w s2 P (by omega) hv A g1 B g2 m1 m2, g2.1, ev_X_t g1.2.1 g2.2.1, fun v h => nr h, x1 m P.1 3 (by omega) (by omega)⟩
