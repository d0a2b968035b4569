/-! ===== soundness: what a run meets lies in the solution ===== -/
/-- the value v of state s lies in the mask a -/
def so_in (lc : Nat → Nat) (s : ev_S) (v : ev_V) (a : Nat) : Prop := (∀ i, v = .inl i → a.testBit 16 = true) ∧ (∀ k, v = .inr k → a.testBit (lc (s.2.2.1 k)) = true)
/-- bindings under which node m is evaluated -/
def so_ES (K N lc : Nat → Nat) (sc : Nat → Nat → Bool) (n : Nat) (t : so_S) (m : Nat) (env : Nat → ev_V) (s : ev_S) : Prop := ∀ b, b < n → K b = 2 → sc m (lc b) = true → so_in lc s (env (N b)) (t.2.2 (lc b))
def so_SS (K N lc : Nat → Nat) (sc : Nat → Nat → Bool) (n : Nat) (t : so_S) (s : ev_S) : Prop := ∀ k, k < s.2.1 → so_ES K N lc sc n t (s.2.2.1 k) (s.2.2.2.1 k) s
def so_SP (K N lc : Nat → Nat) (sc : Nat → Nat → Bool) (n : Nat) (t : so_S) (m : Nat) (env : Nat → ev_V) (s : ev_S) : Prop := so_SS K N lc sc n t s ∧ so_ES K N lc sc n t m env s ∧ t.1 m = 1
def so_SQ (K N lc : Nat → Nat) (sc : Nat → Nat → Bool) (n : Nat) (t : so_S) (m : Nat) (r : ev_R) (s : ev_S) : Prop := so_SS K N lc sc n t s ∧ ∀ v, r = .inl v → so_in lc s v (t.2.1 m)
/-- what the tree gives: scopes of children, bodies, binders -/
def so_B (K e N ix bl lc bd : Nat → Nat) (sc : Nat → Nat → Bool) (n L : Nat) : Prop :=
  (∀ m, m < n → 3 ≤ K m → ∀ l, sc (m + 1) l = sc m l ∧ sc (e (m + 1)) l = sc m l ∧ (K m = 6 → sc (e (e (m + 1))) l = sc m l)) ∧
  (∀ m, m < n → K m = 2 → ∀ l, sc (m + 1) l = true → sc m l = true ∨ l = lc m) ∧
  (∀ m, m < n → K m = 2 → bd (lc m) = m + 1 ∧ lc m < L) ∧
  (∀ m, m < n → K m = 0 → ∃ b, b < n ∧ K b = 2 ∧ sc m (lc b) = true ∧ bl m = lc b ∧ ix m = N b) ∧
  (∀ m, m < n → ∀ b, b < n → K b = 2 → sc m (lc b) = true → N b < N m) ∧
  (∀ a b, a < n → b < n → K a = 2 → K b = 2 → lc a = lc b → a = b)
theorem so_in_sub {lc : Nat → Nat} {s : ev_S} {v : ev_V} {a b : Nat} (h : so_in lc s v a) (g : so_sub a b) : so_in lc s v b := ⟨fun i e => so_sub_bit.mp g _ (h.1 i e), fun k e => so_sub_bit.mp g _ (h.2 k e)⟩
theorem so_in_up {lc : Nat → Nat} {s s' : ev_S} {v : ev_V} {a : Nat} (h : so_in lc s v a) (x : ev_X s s') (o : ev_ok s.2.1 v) : so_in lc s' v a := ⟨h.1, fun k e => by rw [(x.2.2 k (o k e)).1]; exact h.2 k e⟩
theorem so_in_ne {lc : Nat → Nat} {s : ev_S} {v : ev_V} {a : Nat} (h : so_in lc s v a) : a ≠ 0 := by
  intro z
  subst z
  rcases v with i | k
  · have := h.1 i rfl; rw [Nat.zero_testBit] at this; cases this
  · have := h.2 k rfl; rw [Nat.zero_testBit] at this; cases this
section
variable {K e N ix bl lc bd : Nat → Nat} {sc : Nat → Nat → Bool} {bm : Nat → Int32} {op : Nat → Int32} {cl cm n L : Nat} {t : so_S}
theorem so_ES_up (B : so_B K e N ix bl lc bd sc n L) {m m' : Nat} {env : Nat → ev_V} {s s' : ev_S} (h : so_ES K N lc sc n t m env s) (hm : m < n) (hs : ∀ l, sc m' l = sc m l) (x : ev_X s s') (E : ev_E N m env s) : so_ES K N lc sc n t m' env s' := fun b hb kb h1 => by
  rw [hs] at h1
  exact so_in_up (h b hb kb h1) x (E _ (B.2.2.2.2.1 m hm b hb kb h1))
theorem so_p_1 (B : so_B K e N ix bl lc bd sc n L) (C : so_Cl K e bl lc bd L n t) {f m : Nat} {env : Nat → ev_V} {s : ev_S} (P : ev_Pre K e N n cl cm (f + 1) env m s) (S : so_SP K N lc sc n t m env s) (k : 3 ≤ K m) : so_SP K N lc sc n t (m + 1) env s :=
  ⟨S.1, so_ES_up B S.2.1 P.1 (fun l => (B.1 m P.1 k l).1) (ev_X_r s) P.2.2.2, (C m P.1 S.2.2).2.2.2.1 k⟩
theorem so_p_2 (B : so_B K e N ix bl lc bd sc n L) (C : so_Cl K e bl lc bd L n t) {f m : Nat} {v : ev_V} {env : Nat → ev_V} {s s1 : ev_S} (P : ev_Pre K e N n cl cm (f + 1) env m s) (S : so_SP K N lc sc n t m env s) (k : 3 ≤ K m) (k6 : K m ≠ 6) (G : ev_Post K N n cl cm s (.inl v) s1) (q : so_SQ K N lc sc n t (m + 1) (.inl v) s1) : so_SP K N lc sc n t (e (m + 1)) env s1 :=
  ⟨q.1, so_ES_up B S.2.1 P.1 (fun l => (B.1 m P.1 k l).2.1) G.2.1 P.2.2.2, (C m P.1 S.2.2).2.2.2.2.1 k k6⟩
theorem so_p_br (B : so_B K e N ix bl lc bd sc n L) (C : so_Cl K e bl lc bd L n t) {f m : Nat} {i : Int32} {env : Nat → ev_V} {s s1 : ev_S} (P : ev_Pre K e N n cl cm (f + 1) env m s) (S : so_SP K N lc sc n t m env s) (k : K m = 6) (G : ev_Post K N n cl cm s (.inl (.inl i)) s1) (q : so_SQ K N lc sc n t (m + 1) (.inl (.inl i)) s1) : so_SP K N lc sc n t (if i = 0 then e (m + 1) else e (e (m + 1))) env s1 := by
  have h1 := (q.2 _ rfl).1 i rfl
  obtain ⟨c1, c2, _, _⟩ := (C m P.1 S.2.2).2.2.2.2.2.2.1 k h1
  by_cases z : i = 0
  · rw [if_pos z]
    exact ⟨q.1, so_ES_up B S.2.1 P.1 (fun l => (B.1 m P.1 (by omega) l).2.1) G.2.1 P.2.2.2, c1⟩
  · rw [if_neg z]
    exact ⟨q.1, so_ES_up B S.2.1 P.1 (fun l => (B.1 m P.1 (by omega) l).2.2 k) G.2.1 P.2.2.2, c2⟩
/-- what is known at a call -/
theorem so_at_app (B : so_B K e N ix bl lc bd sc n L) (C : so_Cl K e bl lc bd L n t) {f m k : Nat} {w : ev_V} {env : Nat → ev_V} {s s1 s2 : ev_S} (P : ev_Pre K e N n cl cm (f + 1) env m s) (S : so_SP K N lc sc n t m env s) (k3 : K m = 3) (G1 : ev_Post K N n cl cm s (.inl (.inr k)) s1) (q1 : so_SQ K N lc sc n t (m + 1) (.inl (.inr k)) s1) (G2 : ev_Post K N n cl cm s1 (.inl w) s2) (q2 : so_SQ K N lc sc n t (e (m + 1)) (.inl w) s2) : k < s2.2.1 ∧ s2.2.2.1 k < n ∧ K (s2.2.2.1 k) = 2 ∧ lc (s2.2.2.1 k) < L ∧ (t.2.1 (m + 1)).testBit (lc (s2.2.2.1 k)) = true ∧ t.1 (s2.2.2.1 k + 1) = 1 ∧ so_sub (t.2.1 (e (m + 1))) (t.2.2 (lc (s2.2.2.1 k))) ∧ so_sub (t.2.1 (s2.2.2.1 k + 1)) (t.2.1 m) := by
  have hk : k < s1.2.1 := G1.2.2.1 _ rfl k rfl
  have hk2 : k < s2.2.1 := Nat.lt_of_lt_of_le hk G2.2.1.2.1
  obtain ⟨b1, b2, _⟩ := G2.1.2.2 k hk2
  obtain ⟨d1, d2⟩ := B.2.2.1 _ b1 b2
  have h1 := (q1.2 _ rfl).2 k rfl
  rw [← (G2.2.1.2.2 k hk).1] at h1
  have hne := so_in_ne (q2.2 _ rfl)
  obtain ⟨e1, e2, e3⟩ := (C m P.1 S.2.2).2.2.2.2.2.2.2 k3 hne _ d2 h1
  rw [d1] at e1 e3
  exact ⟨hk2, b1, b2, d2, h1, e1, e2, e3⟩
theorem so_p_3 (B : so_B K e N ix bl lc bd sc n L) (C : so_Cl K e bl lc bd L n t) {f m k : Nat} {w : ev_V} {env : Nat → ev_V} {s s1 s2 : ev_S} (P : ev_Pre K e N n cl cm (f + 1) env m s) (S : so_SP K N lc sc n t m env s) (k3 : K m = 3) (G1 : ev_Post K N n cl cm s (.inl (.inr k)) s1) (q1 : so_SQ K N lc sc n t (m + 1) (.inl (.inr k)) s1) (G2 : ev_Post K N n cl cm s1 (.inl w) s2) (q2 : so_SQ K N lc sc n t (e (m + 1)) (.inl w) s2) : so_SP K N lc sc n t (s2.2.2.1 k + 1) (ev_env N k w s2) (ev_call bm m k s2) := by
  obtain ⟨a1, a2, a3, a4, a5, a6, a7, a8⟩ := so_at_app B C P S k3 G1 q1 G2 q2
  refine ⟨q2.1, fun b hb kb h => ?_, a6⟩
  show so_in lc s2 (if N b = N (s2.2.2.1 k) then w else s2.2.2.2.1 k (N b)) (t.2.2 (lc b))
  rcases B.2.1 _ a2 a3 _ h with z | z
  · have := B.2.2.2.2.1 _ a2 b hb kb z
    rw [if_neg (by omega)]
    exact q2.1 k a1 b hb kb z
  · have hz := B.2.2.2.2.2 _ _ hb a2 kb a3 z
    subst hz
    rw [if_pos rfl]
    exact so_in_sub (q2.2 _ rfl) a7
theorem so_q_err {s : ev_S} {m : Nat} {x : Nat × Nat} (h : so_SS K N lc sc n t s) : so_SQ K N lc sc n t m (.inr x) s := ⟨h, fun _ z => nomatch z⟩
theorem so_q_var (B : so_B K e N ix bl lc bd sc n L) (C : so_Cl K e bl lc bd L n t) {f m : Nat} {env : Nat → ev_V} {s : ev_S} (P : ev_Pre K e N n cl cm (f + 1) env m s) (S : so_SP K N lc sc n t m env s) (k : K m = 0) : so_SQ K N lc sc n t m (.inl (env (ix m))) s := by
  refine ⟨S.1, fun v h => ?_⟩
  cases h
  obtain ⟨b, b1, b2, b3, b4, b5⟩ := B.2.2.2.1 m P.1 k
  have h1 := (C m P.1 S.2.2).1 k
  rw [b4] at h1
  rw [b5]
  exact so_in_sub (S.2.1 b b1 b2 b3) h1
theorem so_q_num (C : so_Cl K e bl lc bd L n t) {f m : Nat} {i : Int32} {env : Nat → ev_V} {s : ev_S} (P : ev_Pre K e N n cl cm (f + 1) env m s) (S : so_SP K N lc sc n t m env s) (k : K m = 1) : so_SQ K N lc sc n t m (.inl (.inl i)) s := by
  refine ⟨S.1, fun v h => ?_⟩
  cases h
  exact ⟨fun _ _ => (C m P.1 S.2.2).2.1 k, fun _ z => nomatch z⟩
theorem so_q_lam (B : so_B K e N ix bl lc bd sc n L) (C : so_Cl K e bl lc bd L n t) {f m : Nat} {env : Nat → ev_V} {s : ev_S} (P : ev_Pre K e N n cl cm (f + 1) env m s) (S : so_SP K N lc sc n t m env s) (k : K m = 2) : so_SQ K N lc sc n t m (.inl (.inr s.2.1)) (ev_clo m env s) := by
  have X := ev_clo_X m env s
  refine ⟨fun j hj => ?_, fun v h => ?_⟩
  · have hj' : j < s.2.1 + 1 := hj
    show so_ES K N lc sc n t (if j = s.2.1 then m else s.2.2.1 j) (if j = s.2.1 then env else s.2.2.2.1 j) (ev_clo m env s)
    by_cases z : j = s.2.1
    · rw [if_pos z, if_pos z]
      exact so_ES_up B S.2.1 P.1 (fun _ => rfl) X P.2.2.2
    · rw [if_neg z, if_neg z]
      obtain ⟨w1, w2, w3⟩ := P.2.2.1.2.2 j (by omega)
      exact so_ES_up B (S.1 j (by omega)) w1 (fun _ => rfl) X w3
  · cases h
    refine ⟨fun _ z => (nomatch z), fun j z => ?_⟩
    cases z
    show (t.2.1 m).testBit (lc (if s.2.1 = s.2.1 then m else s.2.2.1 s.2.1)) = true
    rw [if_pos rfl]
    exact (C m P.1 S.2.2).2.2.1 k
theorem so_q_br (C : so_Cl K e bl lc bd L n t) {f m : Nat} {i : Int32} {r : ev_R} {env : Nat → ev_V} {s s1 s2 : ev_S} (P : ev_Pre K e N n cl cm (f + 1) env m s) (S : so_SP K N lc sc n t m env s) (k : K m = 6) (q1 : so_SQ K N lc sc n t (m + 1) (.inl (.inl i)) s1) (q2 : so_SQ K N lc sc n t (if i = 0 then e (m + 1) else e (e (m + 1))) r s2) : so_SQ K N lc sc n t m r s2 := by
  obtain ⟨_, _, c3, c4⟩ := (C m P.1 S.2.2).2.2.2.2.2.2.1 k ((q1.2 _ rfl).1 i rfl)
  refine ⟨q2.1, fun v h => so_in_sub (q2.2 v h) ?_⟩
  by_cases z : i = 0
  · rw [if_pos z]; exact c3
  · rw [if_neg z]; exact c4
theorem so_q_app (B : so_B K e N ix bl lc bd sc n L) (C : so_Cl K e bl lc bd L n t) {f m k : Nat} {w : ev_V} {r : ev_R} {env : Nat → ev_V} {s s1 s2 s3 : ev_S} (P : ev_Pre K e N n cl cm (f + 1) env m s) (S : so_SP K N lc sc n t m env s) (k3 : K m = 3) (G1 : ev_Post K N n cl cm s (.inl (.inr k)) s1) (q1 : so_SQ K N lc sc n t (m + 1) (.inl (.inr k)) s1) (G2 : ev_Post K N n cl cm s1 (.inl w) s2) (q2 : so_SQ K N lc sc n t (e (m + 1)) (.inl w) s2) (q3 : so_SQ K N lc sc n t (s2.2.2.1 k + 1) r s3) : so_SQ K N lc sc n t m r s3 := by
  obtain ⟨a1, a2, a3, a4, a5, a6, a7, a8⟩ := so_at_app B C P S k3 G1 q1 G2 q2
  exact ⟨q3.1, fun v h => so_in_sub (q3.2 v h) a8⟩
theorem so_q_sum (C : so_Cl K e bl lc bd L n t) {f m : Nat} {i j x : Int32} {env : Nat → ev_V} {s s1 s2 : ev_S} (P : ev_Pre K e N n cl cm (f + 1) env m s) (S : so_SP K N lc sc n t m env s) (k : K m = 4 ∨ K m = 5) (G1 : ev_Post K N n cl cm s (.inl (.inl i)) s1) (q1 : so_SQ K N lc sc n t (m + 1) (.inl (.inl i)) s1) (G2 : ev_Post K N n cl cm s1 (.inl (.inl j)) s2) (q2 : so_SQ K N lc sc n t (e (m + 1)) (.inl (.inl j)) s2) : so_SQ K N lc sc n t m (.inl (.inl x)) s2 := by
  refine ⟨q2.1, fun v h => ?_⟩
  cases h
  exact ⟨fun _ _ => (C m P.1 S.2.2).2.2.2.2.2.1 (by omega) (by omega) ((q1.2 _ rfl).1 i rfl) ((q2.2 _ rfl).1 j rfl), fun _ z => nomatch z⟩
end

theorem ev_ind3 (K e N ix bl lc bd : Nat → Nat) (sc : Nat → Nat → Bool) (op bm : Nat → Int32) (cl cm n L : Nat) (t : so_S) (T : ev_T K e N ix n) (B : so_B K e N ix bl lc bd sc n L) (C : so_Cl K e bl lc bd L n t)
    (M : Nat → (Nat → ev_V) → Nat → ev_S → ev_R → ev_S → Prop)
    (cvar : ∀ f env m s, ev_Pre K e N n cl cm (f + 1) env m s → so_SP K N lc sc n t m env s → K m = 0 → so_SQ K N lc sc n t m (.inl (env (ix m))) s → M (f + 1) env m s (.inl (env (ix m))) s)
    (cnum : ∀ f env m s, ev_Pre K e N n cl cm (f + 1) env m s → so_SP K N lc sc n t m env s → K m = 1 → so_SQ K N lc sc n t m (.inl (.inl (op m))) s → M (f + 1) env m s (.inl (.inl (op m))) s)
    (clamF : ∀ f env m (s : ev_S), ev_Pre K e N n cl cm (f + 1) env m s → so_SP K N lc sc n t m env s → K m = 2 → s.2.1 = cm → so_SQ K N lc sc n t m (.inr (5, m)) s → M (f + 1) env m s (.inr (5, m)) s)
    (clam : ∀ f env m (s : ev_S), ev_Pre K e N n cl cm (f + 1) env m s → so_SP K N lc sc n t m env s → K m = 2 → s.2.1 ≠ cm → so_SQ K N lc sc n t m (.inl (.inr s.2.1)) (ev_clo m env s) → M (f + 1) env m s (.inl (.inr s.2.1)) (ev_clo m env s))
    (ce0 : ∀ f env m s x s1, ev_Pre K e N n cl cm (f + 1) env m s → so_SP K N lc sc n t m env s → 3 ≤ K m → ev_Pre K e N n cl cm f env (m + 1) s → so_SP K N lc sc n t (m + 1) env s → ev_Post K N n cl cm s (.inr x) s1 → so_SQ K N lc sc n t (m + 1) (.inr x) s1 → so_SQ K N lc sc n t m (.inr x) s1 → M f env (m + 1) s (.inr x) s1 → M (f + 1) env m s (.inr x) s1)
    (cifS : ∀ f env m s k s1, ev_Pre K e N n cl cm (f + 1) env m s → so_SP K N lc sc n t m env s → K m = 6 → ev_Pre K e N n cl cm f env (m + 1) s → so_SP K N lc sc n t (m + 1) env s → ev_Post K N n cl cm s (.inl (.inr k)) s1 → so_SQ K N lc sc n t (m + 1) (.inl (.inr k)) s1 → so_SQ K N lc sc n t m (.inr (3, m)) s1 → M f env (m + 1) s (.inl (.inr k)) s1 → M (f + 1) env m s (.inr (3, m)) s1)
    (cif : ∀ f env m s i s1 r s2, ev_Pre K e N n cl cm (f + 1) env m s → so_SP K N lc sc n t m env s → K m = 6 → ev_Pre K e N n cl cm f env (m + 1) s → so_SP K N lc sc n t (m + 1) env s → ev_Post K N n cl cm s (.inl (.inl i)) s1 → so_SQ K N lc sc n t (m + 1) (.inl (.inl i)) s1 → ev_Pre K e N n cl cm f env (if i = 0 then e (m + 1) else e (e (m + 1))) s1 → so_SP K N lc sc n t (if i = 0 then e (m + 1) else e (e (m + 1))) env s1 → ev_Post K N n cl cm s1 r s2 → so_SQ K N lc sc n t (if i = 0 then e (m + 1) else e (e (m + 1))) r s2 → so_SQ K N lc sc n t m r s2 → M f env (m + 1) s (.inl (.inl i)) s1 → M f env (if i = 0 then e (m + 1) else e (e (m + 1))) s1 r s2 → M (f + 1) env m s r s2)
    (ce1 : ∀ f env m s v s1 x s2, ev_Pre K e N n cl cm (f + 1) env m s → so_SP K N lc sc n t m env s → 3 ≤ K m → K m ≠ 6 → ev_Pre K e N n cl cm f env (m + 1) s → so_SP K N lc sc n t (m + 1) env s → ev_Post K N n cl cm s (.inl v) s1 → so_SQ K N lc sc n t (m + 1) (.inl v) s1 → ev_Pre K e N n cl cm f env (e (m + 1)) s1 → so_SP K N lc sc n t (e (m + 1)) env s1 → ev_Post K N n cl cm s1 (.inr x) s2 → so_SQ K N lc sc n t (e (m + 1)) (.inr x) s2 → so_SQ K N lc sc n t m (.inr x) s2 → M f env (m + 1) s (.inl v) s1 → M f env (e (m + 1)) s1 (.inr x) s2 → M (f + 1) env m s (.inr x) s2)
    (cappS : ∀ f env m s i s1 w s2, ev_Pre K e N n cl cm (f + 1) env m s → so_SP K N lc sc n t m env s → K m = 3 → ev_Pre K e N n cl cm f env (m + 1) s → so_SP K N lc sc n t (m + 1) env s → ev_Post K N n cl cm s (.inl (.inl i)) s1 → so_SQ K N lc sc n t (m + 1) (.inl (.inl i)) s1 → ev_Pre K e N n cl cm f env (e (m + 1)) s1 → so_SP K N lc sc n t (e (m + 1)) env s1 → ev_Post K N n cl cm s1 (.inl w) s2 → so_SQ K N lc sc n t (e (m + 1)) (.inl w) s2 → so_SQ K N lc sc n t m (.inr (3, m)) s2 → M f env (m + 1) s (.inl (.inl i)) s1 → M f env (e (m + 1)) s1 (.inl w) s2 → M (f + 1) env m s (.inr (3, m)) s2)
    (cappC : ∀ f env m s k s1 w (s2 : ev_S), ev_Pre K e N n cl cm (f + 1) env m s → so_SP K N lc sc n t m env s → K m = 3 → s2.1 = cl → ev_Pre K e N n cl cm f env (m + 1) s → so_SP K N lc sc n t (m + 1) env s → ev_Post K N n cl cm s (.inl (.inr k)) s1 → so_SQ K N lc sc n t (m + 1) (.inl (.inr k)) s1 → ev_Pre K e N n cl cm f env (e (m + 1)) s1 → so_SP K N lc sc n t (e (m + 1)) env s1 → ev_Post K N n cl cm s1 (.inl w) s2 → so_SQ K N lc sc n t (e (m + 1)) (.inl w) s2 → so_SQ K N lc sc n t m (.inr (4, m)) s2 → M f env (m + 1) s (.inl (.inr k)) s1 → M f env (e (m + 1)) s1 (.inl w) s2 → M (f + 1) env m s (.inr (4, m)) s2)
    (capp : ∀ f env m s k s1 w (s2 : ev_S) r s3, ev_Pre K e N n cl cm (f + 1) env m s → so_SP K N lc sc n t m env s → K m = 3 → s2.1 ≠ cl → ev_Pre K e N n cl cm f env (m + 1) s → so_SP K N lc sc n t (m + 1) env s → ev_Post K N n cl cm s (.inl (.inr k)) s1 → so_SQ K N lc sc n t (m + 1) (.inl (.inr k)) s1 → ev_Pre K e N n cl cm f env (e (m + 1)) s1 → so_SP K N lc sc n t (e (m + 1)) env s1 → ev_Post K N n cl cm s1 (.inl w) s2 → so_SQ K N lc sc n t (e (m + 1)) (.inl w) s2 → ev_Pre K e N n cl cm f (ev_env N k w s2) (s2.2.2.1 k + 1) (ev_call bm m k s2) → so_SP K N lc sc n t (s2.2.2.1 k + 1) (ev_env N k w s2) (ev_call bm m k s2) → ev_Post K N n cl cm (ev_call bm m k s2) r s3 → so_SQ K N lc sc n t (s2.2.2.1 k + 1) r s3 → so_SQ K N lc sc n t m r s3 → M f env (m + 1) s (.inl (.inr k)) s1 → M f env (e (m + 1)) s1 (.inl w) s2 → M f (ev_env N k w s2) (s2.2.2.1 k + 1) (ev_call bm m k s2) r s3 → M (f + 1) env m s r s3)
    (csum : ∀ f env m s i s1 j s2, ev_Pre K e N n cl cm (f + 1) env m s → so_SP K N lc sc n t m env s → (K m = 4 ∨ K m = 5) → ev_Pre K e N n cl cm f env (m + 1) s → so_SP K N lc sc n t (m + 1) env s → ev_Post K N n cl cm s (.inl (.inl i)) s1 → so_SQ K N lc sc n t (m + 1) (.inl (.inl i)) s1 → ev_Pre K e N n cl cm f env (e (m + 1)) s1 → so_SP K N lc sc n t (e (m + 1)) env s1 → ev_Post K N n cl cm s1 (.inl (.inl j)) s2 → so_SQ K N lc sc n t (e (m + 1)) (.inl (.inl j)) s2 → so_SQ K N lc sc n t m (.inl (.inl (if K m = 4 then i + j else i - j))) s2 → M f env (m + 1) s (.inl (.inl i)) s1 → M f env (e (m + 1)) s1 (.inl (.inl j)) s2 → M (f + 1) env m s (.inl (.inl (if K m = 4 then i + j else i - j))) s2)
    (csumS : ∀ f env m s v s1 w s2, ev_Pre K e N n cl cm (f + 1) env m s → so_SP K N lc sc n t m env s → (K m = 4 ∨ K m = 5) → ((∃ k, v = .inr k) ∨ (∃ k, w = .inr k)) → ev_Pre K e N n cl cm f env (m + 1) s → so_SP K N lc sc n t (m + 1) env s → ev_Post K N n cl cm s (.inl v) s1 → so_SQ K N lc sc n t (m + 1) (.inl v) s1 → ev_Pre K e N n cl cm f env (e (m + 1)) s1 → so_SP K N lc sc n t (e (m + 1)) env s1 → ev_Post K N n cl cm s1 (.inl w) s2 → so_SQ K N lc sc n t (e (m + 1)) (.inl w) s2 → so_SQ K N lc sc n t m (.inr (3, m)) s2 → M f env (m + 1) s (.inl v) s1 → M f env (e (m + 1)) s1 (.inl w) s2 → M (f + 1) env m s (.inr (3, m)) s2) :
    ∀ f env m s, ev_Pre K e N n cl cm f env m s → so_SP K N lc sc n t m env s → M f env m s (ev_al K e N ix op bm cl cm f env m s).1 (ev_al K e N ix op bm cl cm f env m s).2 ∧ so_SQ K N lc sc n t m (ev_al K e N ix op bm cl cm f env m s).1 (ev_al K e N ix op bm cl cm f env m s).2 := by
  intro f env m s P0 S0
  refine (ev_ind2 K e N ix op bm cl cm n T (fun f env m s r s' => so_SP K N lc sc n t m env s → M f env m s r s' ∧ so_SQ K N lc sc n t m r s') ?_ ?_ ?_ ?_ ?_ ?_ ?_ ?_ ?_ ?_ ?_ ?_ ?_ f env m s P0).1 S0
  · intro f env m s P k S
    have qq : so_SQ K N lc sc n t m (.inl (env (ix m))) s := so_q_var B C P S k
    exact ⟨cvar f env m s P S k qq, qq⟩
  · intro f env m s P k S
    have qq : so_SQ K N lc sc n t m (.inl (.inl (op m))) s := so_q_num C P S k
    exact ⟨cnum f env m s P S k qq, qq⟩
  · intro f env m s P k k2 S
    have qq : so_SQ K N lc sc n t m (.inr (5, m)) s := so_q_err S.1
    exact ⟨clamF f env m s P S k k2 qq, qq⟩
  · intro f env m s P k k2 S
    have qq : so_SQ K N lc sc n t m (.inl (.inr s.2.1)) (ev_clo m env s) := so_q_lam B C P S k
    exact ⟨clam f env m s P S k k2 qq, qq⟩
  · intro f env m s x s1 P k A1 G1 H1 S
    have S1 : so_SP K N lc sc n t (m + 1) env s := so_p_1 B C P S k
    obtain ⟨m1, q1⟩ := H1 S1
    have qq : so_SQ K N lc sc n t m (.inr x) s1 := so_q_err q1.1
    exact ⟨ce0 f env m s x s1 P S k A1 S1 G1 q1 qq m1, qq⟩
  · intro f env m s k s1 P ka A1 G1 H1 S
    have S1 : so_SP K N lc sc n t (m + 1) env s := so_p_1 B C P S (by omega)
    obtain ⟨m1, q1⟩ := H1 S1
    have qq : so_SQ K N lc sc n t m (.inr (3, m)) s1 := so_q_err q1.1
    exact ⟨cifS f env m s k s1 P S ka A1 S1 G1 q1 qq m1, qq⟩
  · intro f env m s i s1 r s2 P k A1 G1 A2 G2 H1 H2 S
    have S1 : so_SP K N lc sc n t (m + 1) env s := so_p_1 B C P S (by omega)
    obtain ⟨m1, q1⟩ := H1 S1
    have S2 : so_SP K N lc sc n t (if i = 0 then e (m + 1) else e (e (m + 1))) env s1 := so_p_br B C P S k G1 q1
    obtain ⟨m2, q2⟩ := H2 S2
    have qq : so_SQ K N lc sc n t m r s2 := so_q_br C P S k q1 q2
    exact ⟨cif f env m s i s1 r s2 P S k A1 S1 G1 q1 A2 S2 G2 q2 qq m1 m2, qq⟩
  · intro f env m s v s1 x s2 P k k2 A1 G1 A2 G2 H1 H2 S
    have S1 : so_SP K N lc sc n t (m + 1) env s := so_p_1 B C P S k
    obtain ⟨m1, q1⟩ := H1 S1
    have S2 : so_SP K N lc sc n t (e (m + 1)) env s1 := so_p_2 B C P S k k2 G1 q1
    obtain ⟨m2, q2⟩ := H2 S2
    have qq : so_SQ K N lc sc n t m (.inr x) s2 := so_q_err q2.1
    exact ⟨ce1 f env m s v s1 x s2 P S k k2 A1 S1 G1 q1 A2 S2 G2 q2 qq m1 m2, qq⟩
  · intro f env m s i s1 w s2 P k A1 G1 A2 G2 H1 H2 S
    have S1 : so_SP K N lc sc n t (m + 1) env s := so_p_1 B C P S (by omega)
    obtain ⟨m1, q1⟩ := H1 S1
    have S2 : so_SP K N lc sc n t (e (m + 1)) env s1 := so_p_2 B C P S (by omega) (by omega) G1 q1
    obtain ⟨m2, q2⟩ := H2 S2
    have qq : so_SQ K N lc sc n t m (.inr (3, m)) s2 := so_q_err q2.1
    exact ⟨cappS f env m s i s1 w s2 P S k A1 S1 G1 q1 A2 S2 G2 q2 qq m1 m2, qq⟩
  · intro f env m s k s1 w s2 P ka kb A1 G1 A2 G2 H1 H2 S
    have S1 : so_SP K N lc sc n t (m + 1) env s := so_p_1 B C P S (by omega)
    obtain ⟨m1, q1⟩ := H1 S1
    have S2 : so_SP K N lc sc n t (e (m + 1)) env s1 := so_p_2 B C P S (by omega) (by omega) G1 q1
    obtain ⟨m2, q2⟩ := H2 S2
    have qq : so_SQ K N lc sc n t m (.inr (4, m)) s2 := so_q_err q2.1
    exact ⟨cappC f env m s k s1 w s2 P S ka kb A1 S1 G1 q1 A2 S2 G2 q2 qq m1 m2, qq⟩
  · intro f env m s k s1 w s2 r s3 P ka kb A1 G1 A2 G2 A3 G3 H1 H2 H3 S
    have S1 : so_SP K N lc sc n t (m + 1) env s := so_p_1 B C P S (by omega)
    obtain ⟨m1, q1⟩ := H1 S1
    have S2 : so_SP K N lc sc n t (e (m + 1)) env s1 := so_p_2 B C P S (by omega) (by omega) G1 q1
    obtain ⟨m2, q2⟩ := H2 S2
    have S3 : so_SP K N lc sc n t (s2.2.2.1 k + 1) (ev_env N k w s2) (ev_call bm m k s2) := so_p_3 B C P S ka G1 q1 G2 q2
    obtain ⟨m3, q3⟩ := H3 S3
    have qq : so_SQ K N lc sc n t m r s3 := so_q_app B C P S ka G1 q1 G2 q2 q3
    exact ⟨capp f env m s k s1 w s2 r s3 P S ka kb A1 S1 G1 q1 A2 S2 G2 q2 A3 S3 G3 q3 qq m1 m2 m3, qq⟩
  · intro f env m s i s1 j s2 P k A1 G1 A2 G2 H1 H2 S
    have S1 : so_SP K N lc sc n t (m + 1) env s := so_p_1 B C P S (by omega)
    obtain ⟨m1, q1⟩ := H1 S1
    have S2 : so_SP K N lc sc n t (e (m + 1)) env s1 := so_p_2 B C P S (by omega) (by omega) G1 q1
    obtain ⟨m2, q2⟩ := H2 S2
    have qq : so_SQ K N lc sc n t m (.inl (.inl (if K m = 4 then i + j else i - j))) s2 := so_q_sum C P S k G1 q1 G2 q2
    exact ⟨csum f env m s i s1 j s2 P S k A1 S1 G1 q1 A2 S2 G2 q2 qq m1 m2, qq⟩
  · intro f env m s v s1 w s2 P k k2 A1 G1 A2 G2 H1 H2 S
    have S1 : so_SP K N lc sc n t (m + 1) env s := so_p_1 B C P S (by omega)
    obtain ⟨m1, q1⟩ := H1 S1
    have S2 : so_SP K N lc sc n t (e (m + 1)) env s1 := so_p_2 B C P S (by omega) (by omega) G1 q1
    obtain ⟨m2, q2⟩ := H2 S2
    have qq : so_SQ K N lc sc n t m (.inr (3, m)) s2 := so_q_err q2.1
    exact ⟨csumS f env m s v s1 w s2 P S k k2 A1 S1 G1 q1 A2 S2 G2 q2 qq m1 m2, qq⟩
