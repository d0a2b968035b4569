/-! ===== where the code of a node stands: la_c d m a z: the code of m is [a, z) ===== -/
def la_c (K e lv sk oc nd tg : Nat → Nat) : Nat → Nat → Nat → Nat → Prop
  | 0, _, _, _ => False
  | d + 1, m, a, z =>
    (K m = 0 → oc a = 1 ∧ nd a = m ∧ z = a + 1) ∧ (K m = 1 → oc a = 0 ∧ nd a = m ∧ z = a + 1) ∧ (K m = 2 → oc a = 2 ∧ nd a = m ∧ z = a + 1) ∧
    (3 ≤ K m → K m ≠ 6 → ∃ y x, la_c K e lv sk oc nd tg d (m + 1) a y ∧ la_c K e lv sk oc nd tg d (e (m + 1)) y x ∧ oc x = (if K m = 3 then sk m else 3) ∧ nd x = m ∧ z = x + 1) ∧
    (K m = 6 → lv (e (m + 1)) = 1 → ∃ y x, la_c K e lv sk oc nd tg d (m + 1) a y ∧ oc y = 4 ∧ nd y = m ∧ la_c K e lv sk oc nd tg d (e (m + 1)) (y + 1) x ∧ oc x = 5 ∧ nd x = m ∧ tg y = x + 1 ∧ la_c K e lv sk oc nd tg d (e (e (m + 1))) (x + 1) z ∧ tg x = z) ∧
    (K m = 6 → lv (e (m + 1)) ≠ 1 → ∃ y, la_c K e lv sk oc nd tg d (m + 1) a y ∧ oc y = 8 ∧ nd y = m ∧ z = y + 1)
theorem la_lt {K e lv sk oc nd tg : Nat → Nat} : ∀ d m a z, la_c K e lv sk oc nd tg d m a z → a < z := by
  intro d
  induction d with
  | zero => intro m a z h; exact h.elim
  | succ d ih =>
    intro m a z ⟨h0, h1, h2, h3, h4, h5⟩
    by_cases k0 : K m = 0
    · have := h0 k0; omega
    by_cases k1 : K m = 1
    · have := h1 k1; omega
    by_cases k2 : K m = 2
    · have := h2 k2; omega
    by_cases k6 : K m = 6
    · by_cases q : lv (e (m + 1)) = 1
      · obtain ⟨y, x, a1, _, _, a4, _, _, _, a8, _⟩ := h4 k6 q
        have := ih _ _ _ a1
        have := ih _ _ _ a4
        have := ih _ _ _ a8
        omega
      · obtain ⟨y, a1, _, _, a4⟩ := h5 k6 q
        have := ih _ _ _ a1
        omega
    · obtain ⟨y, x, a1, a2, _, _, a5⟩ := h3 (by omega) k6
      have := ih _ _ _ a1
      have := ih _ _ _ a2
      omega
/-- the code of a node looks at its own cells alone; at targets only where no known call stands -/
theorem la_keep {K e lv sk oc nd tg oc' nd' tg' : Nat → Nat} (lo hi : Nat) (h1 : ∀ j, lo ≤ j → j < hi → oc' j = oc j ∧ nd' j = nd j ∧ (oc j ≠ 6 → tg' j = tg j)) : ∀ d m a z, lo ≤ a → z ≤ hi → la_c K e lv sk oc nd tg d m a z → la_c K e lv sk oc' nd' tg' d m a z := by
  intro d
  induction d with
  | zero => intro m a z _ _ h; exact h.elim
  | succ d ih =>
    intro m a z hl hh h
    have hlt := la_lt _ _ _ _ h
    obtain ⟨g0, g1, g2, g3, g4, g5⟩ := h
    obtain ⟨e1, e2, _⟩ := h1 a hl (by omega)
    refine ⟨fun k => ?_, fun k => ?_, fun k => ?_, fun k k6 => ?_, fun k q => ?_, fun k q => ?_⟩
    · rw [e1, e2]; exact g0 k
    · rw [e1, e2]; exact g1 k
    · rw [e1, e2]; exact g2 k
    · obtain ⟨y, x, a1, a2, a3, a4, a5⟩ := g3 k k6
      have l1 := la_lt _ _ _ _ a1
      have l2 := la_lt _ _ _ _ a2
      obtain ⟨f1, f2, _⟩ := h1 x (by omega) (by omega)
      exact ⟨y, x, ih _ _ _ hl (by omega) a1, ih _ _ _ (by omega) (by omega) a2, by rw [f1]; exact a3, by rw [f2]; exact a4, a5⟩
    · obtain ⟨y, x, a1, a2, a3, a4, a5, a6, a7, a8, a9⟩ := g4 k q
      have l1 := la_lt _ _ _ _ a1
      have l2 := la_lt _ _ _ _ a4
      have l3 := la_lt _ _ _ _ a8
      obtain ⟨f1, f2, f3⟩ := h1 y (by omega) (by omega)
      obtain ⟨p1, p2, p3⟩ := h1 x (by omega) (by omega)
      exact ⟨y, x, ih _ _ _ hl (by omega) a1, by rw [f1]; exact a2, by rw [f2]; exact a3, ih _ _ _ (by omega) (by omega) a4, by rw [p1]; exact a5, by rw [p2]; exact a6, by rw [f3 (by omega)]; exact a7, ih _ _ _ (by omega) (by omega) a8, by rw [p3 (by omega)]; exact a9⟩
    · obtain ⟨y, a1, a2, a3, a4⟩ := g5 k q
      have l1 := la_lt _ _ _ _ a1
      obtain ⟨f1, f2, _⟩ := h1 y (by omega) (by omega)
      exact ⟨y, ih _ _ _ hl (by omega) a1, by rw [f1]; exact a2, by rw [f2]; exact a3, a4⟩
/-! the rules of the machine over code: C b pc a -/
def cm_R (K e N Lv ix en : Nat → Nat) (op bm : Nat → Int32) (lc oc nd tg : Nat → Nat) (cl cm n cn : Nat) (C : Nat → Nat → am_S → Prop) (J : Nat × Nat → ev_S → Prop) : Prop :=
  (∀ b d c a, C b c a → C (b + d) c a) ∧
  (∀ b c m s f F R w W, c < cn → oc c = 1 → nd c = m → m < n → K m = 0 → f ≤ 48 → w < 294 → C b (c + 1) (s, f, F, R, w + 1, am_pw W w (F f (ix m))) → C (b + 1) c (s, f, F, R, w, W)) ∧
  (∀ b c m s f F R w W, c < cn → oc c = 0 → nd c = m → m < n → K m = 1 → f ≤ 48 → w < 294 → C b (c + 1) (s, f, F, R, w + 1, am_pw W w (.inl (op m))) → C (b + 1) c (s, f, F, R, w, W)) ∧
  (∀ b c m (s : ev_S) f F R w W, c < cn → oc c = 2 → nd c = m → m < n → K m = 2 → f ≤ 48 → w < 294 → s.2.1 = cm → J (5, m) s → C (b + 2) c (s, f, F, R, w, W)) ∧
  (∀ b c m (s : ev_S) f F R w W, c < cn → oc c = 2 → nd c = m → m < n → K m = 2 → f ≤ 48 → w < 294 → ev_W K N n cl cm s → s.2.1 ≠ cm → C b (c + 1) (ev_clo m (F f) s, f, F, R, w + 1, am_pw W w (.inr s.2.1)) → C (b + 1) c (s, f, F, R, w, W)) ∧
  (∀ b c m s f F R w W k, c < cn → oc c = 4 → nd c = m → m < n → K m = 6 → w < 294 → ev_W K N n cl cm s → k < s.2.1 → J (3, m) s → C (b + 2) c (s, f, F, R, w + 1, am_pw W w (.inr k))) ∧
  (∀ b c m s f F R w W i, c < cn → oc c = 4 → nd c = m → m < n → K m = 6 → w < 294 → C b (if i = 0 then c + 1 else tg c) (s, f, F, R, w, W) → C (b + 1) c (s, f, F, R, w + 1, am_pw W w (.inl i))) ∧
  (∀ b c a, c < cn → oc c = 5 → C b (tg c) a → C (b + 1) c a) ∧
  (∀ b c m s f F R w W i j, c < cn → oc c = 3 → nd c = m → m < n → (K m = 4 ∨ K m = 5) → w + 1 < 294 → C b (c + 1) (s, f, F, R, w + 1, am_pw W w (.inl (if K m = 4 then i + j else i - j))) → C (b + 1) c (s, f, F, R, w + 2, am_pw (am_pw W w (.inl i)) (w + 1) (.inl j))) ∧
  (∀ b c m s f F R w W v x, c < cn → oc c = 3 → nd c = m → m < n → (K m = 4 ∨ K m = 5) → w + 1 < 294 → ev_W K N n cl cm s → ev_ok s.2.1 v → ev_ok s.2.1 x → ((∃ k, v = .inr k) ∨ (∃ k, x = .inr k)) → J (3, m) s → C (b + 2) c (s, f, F, R, w + 2, am_pw (am_pw W w v) (w + 1) x)) ∧
  (∀ b c m s f F R w W i x, c < cn → oc c = 7 → nd c = m → m < n → K m = 3 → w + 1 < 294 → J (3, m) s → C (b + 2) c (s, f, F, R, w + 2, am_pw (am_pw W w (.inl i)) (w + 1) x)) ∧
  (∀ b c m s a, c < cn → oc c = 8 → nd c = m → m < n → a.1 = s → J (3, m) s → C (b + 2) c a) ∧
  (∀ b c m (s : ev_S) f F R w W k x, c < cn → (oc c = 6 ∨ oc c = 7) → nd c = m → m < n → K m = 3 → w + 1 < 294 → ev_W K N n cl cm s → k < s.2.1 → s.1 = cl → J (4, m) s → C (b + 2) c (s, f, F, R, w + 2, am_pw (am_pw W w (.inr k)) (w + 1) x)) ∧
  (∀ b c m (s : ev_S) f F R w W k x, c < cn → (oc c = 6 ∧ tg c = en (lc (s.2.2.1 k)) ∨ oc c = 7) → nd c = m → m < n → K m = 3 → w + 1 < 294 → f < 48 → ev_W K N n cl cm s → k < s.2.1 → ev_ok s.2.1 x → s.1 ≠ cl → N (nd (en (lc (s.2.2.1 k)))) = N (s.2.2.1 k) + 1 → C b (en (lc (s.2.2.1 k))) (ev_call bm m k s, f + 1, am_pf F (f + 1) (ev_env N k x s), tr_put R (f + 1) (c + 1), w, W) → C (b + 1) c (s, f, F, R, w + 2, am_pw (am_pw W w (.inr k)) (w + 1) x)) ∧
  (∀ b c z s f F R w W g, c < cn → oc c = 9 → f < 48 → C b z (s, f, F, R, w, W) → C (b + 1) c (s, f + 1, am_pf F (f + 1) g, tr_put R (f + 1) z, w, W))
/-- one bit alone -/
theorem cm_one : ∀ f : Nat, f &&& (f - 1) = 0 → ∀ i, f.testBit i = true → f = 2 ^ i := by
  intro f
  induction f using Nat.strongRecOn with
  | _ f ih =>
    intro h i hi
    rcases Nat.eq_zero_or_pos f with z | z
    · rw [z, Nat.zero_testBit] at hi; cases hi
    have hd : (f &&& (f - 1)) / 2 = f / 2 &&& (f - 1) / 2 := Nat.and_div_two
    rw [h] at hd
    by_cases o : f % 2 = 1
    · -- odd: f / 2 meets itself
      have e1 : (f - 1) / 2 = f / 2 := by omega
      rw [e1, Nat.and_self] at hd
      have e2 : f = 1 := by omega
      subst e2
      cases i with
      | zero => rfl
      | succ i => rw [Nat.testBit_succ] at hi; simp at hi
    · have e1 : (f - 1) / 2 = f / 2 - 1 := by omega
      rw [e1] at hd
      cases i with
      | zero =>
        rw [Nat.testBit_zero, decide_eq_true_iff] at hi
        exact absurd hi o
      | succ i =>
        rw [Nat.testBit_succ] at hi
        have := ih (f / 2) (by omega) (by omega) i hi
        rw [Nat.pow_succ]
        omega
def cm_sk (e : Nat → Nat) (t : so_S) (m : Nat) : Nat :=
  if t.1 m = 0 ∨ t.2.1 (m + 1) % 65536 = 0 ∨ t.2.1 (e (m + 1)) = 0 then 8
  else if t.2.1 (m + 1) &&& (t.2.1 (m + 1) - 1) = 0 then 6 else 7
/-- the cells of a node's code: their nodes have its nest, their targets lie in the code or at its end -/
theorem la_N {K e N lv sk oc nd tg : Nat → Nat} {n : Nat} (T : tr_T K e n) (C : tr_C K e N n) (hsk : ∀ m, 6 ≤ sk m ∧ sk m ≤ 8) (hK : ∀ m, m < n → K m ≤ 6) : ∀ d m a z, m < n → la_c K e lv sk oc nd tg d m a z → ∀ c, a ≤ c → c < z → nd c < n ∧ N (nd c) = N m ∧ oc c ≤ 8 ∧ (oc c = 4 ∨ oc c = 5 → a ≤ tg c ∧ tg c ≤ z) ∧ (oc c = 6 → K (nd c) = 3) := by
  intro d
  induction d with
  | zero => intro m a z _ h; exact h.elim
  | succ d ih =>
    intro m a z hm h c h1 h2
    obtain ⟨g0, g1, g2, g3, g4, g5⟩ := h
    have h6 := hK m hm
    have leaf : ∀ x, oc a = x → nd a = m → z = a + 1 → x ≤ 2 → nd c < n ∧ N (nd c) = N m ∧ oc c ≤ 8 ∧ (oc c = 4 ∨ oc c = 5 → a ≤ tg c ∧ tg c ≤ z) ∧ (oc c = 6 → K (nd c) = 3) := fun x e1 e2 e3 e4 => by
      have e : c = a := by omega
      subst e
      rw [e1, e2]
      exact ⟨hm, rfl, by omega, fun w => by omega, fun w => by omega⟩
    by_cases k0 : K m = 0
    · obtain ⟨e1, e2, e3⟩ := g0 k0; exact leaf 1 e1 e2 e3 (by omega)
    by_cases k1 : K m = 1
    · obtain ⟨e1, e2, e3⟩ := g1 k1; exact leaf 0 e1 e2 e3 (by omega)
    by_cases k2 : K m = 2
    · obtain ⟨e1, e2, e3⟩ := g2 k2; exact leaf 2 e1 e2 e3 (by omega)
    obtain ⟨c1, c2, c3⟩ := (C m hm).2 (by omega)
    by_cases k6 : K m = 6
    · have hz := tr_k6 T hm k6
      by_cases q : lv (e (m + 1)) = 1
      · obtain ⟨y, x, a1, a2, a3, a4, a5, a6, a7, a8, a9⟩ := g4 k6 q
        have l1 := la_lt _ _ _ _ a1
        have l2 := la_lt _ _ _ _ a4
        have l3 := la_lt _ _ _ _ a8
        by_cases p1 : c < y
        · obtain ⟨r1, r2, r3, r4, r5⟩ := ih _ _ _ (by omega) a1 c h1 p1
          exact ⟨r1, r2.trans c1, r3, fun w => by have := r4 w; omega, r5⟩
        by_cases p2 : c = y
        · subst p2
          rw [a2, a3, a7]
          exact ⟨hm, rfl, by omega, fun _ => by omega, fun w => by omega⟩
        by_cases p3 : c < x
        · obtain ⟨r1, r2, r3, r4, r5⟩ := ih _ _ _ (by omega) a4 c (by omega) p3
          exact ⟨r1, r2.trans c2, r3, fun w => by have := r4 w; omega, r5⟩
        by_cases p4 : c = x
        · subst p4
          rw [a5, a6, a9]
          exact ⟨hm, rfl, by omega, fun _ => by omega, fun w => by omega⟩
        · obtain ⟨r1, r2, r3, r4, r5⟩ := ih _ _ _ (by omega) a8 c (by omega) h2
          exact ⟨r1, r2.trans (c3 k6), r3, fun w => by have := r4 w; omega, r5⟩
      · obtain ⟨y, a1, a2, a3, a4⟩ := g5 k6 q
        by_cases p1 : c < y
        · obtain ⟨r1, r2, r3, r4, r5⟩ := ih _ _ _ (by omega) a1 c h1 p1
          exact ⟨r1, r2.trans c1, r3, fun w => by have := r4 w; omega, r5⟩
        · have e : c = y := by omega
          subst e
          rw [a2, a3]
          exact ⟨hm, rfl, by omega, fun w => by omega, fun w => by omega⟩
    · have hz := tr_k3 T hm (by omega) k6
      obtain ⟨y, x, a1, a2, a3, a4, a5⟩ := g3 (by omega) k6
      have l1 := la_lt _ _ _ _ a1
      have l2 := la_lt _ _ _ _ a2
      by_cases p1 : c < y
      · obtain ⟨r1, r2, r3, r4, r5⟩ := ih _ _ _ (by omega) a1 c h1 p1
        exact ⟨r1, r2.trans c1, r3, fun w => by have := r4 w; omega, r5⟩
      by_cases p2 : c < x
      · obtain ⟨r1, r2, r3, r4, r5⟩ := ih _ _ _ (by omega) a2 c (by omega) p2
        exact ⟨r1, r2.trans c2, r3, fun w => by have := r4 w; omega, r5⟩
      · have e : c = x := by omega
        subst e
        have hs := hsk m
        rw [a3, a4]
        by_cases k3 : K m = 3
        · rw [if_pos k3]
          exact ⟨hm, rfl, by omega, fun w => by omega, fun _ => k3⟩
        · rw [if_neg k3]
          exact ⟨hm, rfl, by omega, fun w => by omega, fun w => by omega⟩
theorem cm_sk_in {e : Nat → Nat} {t : so_S} : ∀ m, 6 ≤ cm_sk e t m ∧ cm_sk e t m ≤ 8 := by
  intro m
  unfold cm_sk
  by_cases a : t.1 m = 0 ∨ t.2.1 (m + 1) % 65536 = 0 ∨ t.2.1 (e (m + 1)) = 0
  · rw [if_pos a]; omega
  · rw [if_neg a]
    by_cases b : t.2.1 (m + 1) &&& (t.2.1 (m + 1) - 1) = 0
    · rw [if_pos b]; omega
    · rw [if_neg b]; omega
