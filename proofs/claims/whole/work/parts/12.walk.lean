/-! ===== the walk that begins anew at the root after every cell: tables by cell (activation * 48 + node) ===== -/
/-- calls, closures, done, fn, val, entered, bind, called masks -/
abbrev yw_S : Type := Nat × Nat × (Nat → Nat) × (Nat → Int32) × (Nat → Int32) × (Nat → Nat) × (Nat → Nat) × (Nat → Int32)
abbrev yw_dn (T : yw_S) : Nat → Nat := T.2.2.1
abbrev yw_fn (T : yw_S) : Nat → Int32 := T.2.2.2.1
abbrev yw_vl (T : yw_S) : Nat → Int32 := T.2.2.2.2.1
abbrev yw_et (T : yw_S) : Nat → Nat := T.2.2.2.2.2.1
abbrev yw_bi (T : yw_S) : Nat → Nat := T.2.2.2.2.2.2.1
abbrev yw_cs (T : yw_S) : Nat → Int32 := T.2.2.2.2.2.2.2
def yw_fin (q : Nat) (x y : Int32) (T : yw_S) : yw_S := (T.1, T.2.1, tr_put (yw_dn T) q 1, (fun j => if j = q then x else yw_fn T j), (fun j => if j = q then y else yw_vl T j), yw_et T, yw_bi T, yw_cs T)
def yw_inc (T : yw_S) : yw_S := (T.1, T.2.1 + 1, T.2.2)
/-- a call: the new activation has the bindings of A', and cell q at lambda l -/
def yw_call (bm : Nat → Int32) (m at' A' l q p : Nat) (T : yw_S) : yw_S := (T.1 + 1, T.2.1, yw_dn T, yw_fn T, yw_vl T, tr_put (yw_et T) at' ((T.1 + 1) * 48 + (p + 1)), (fun j => if j = (T.1 + 1) * 16 + l then q else if (T.1 + 1) * 16 ≤ j ∧ j < (T.1 + 1) * 16 + 16 then yw_bi T (A' * 16 + (j - (T.1 + 1) * 16)) else yw_bi T j), (fun j => if j = m then yw_cs T m ||| bm p else yw_cs T j))
def yw_R (K e bl lc : Nat → Nat) (op bm : Nat → Int32) (cl cm n : Nat) (Y : Nat → Nat → yw_S → Prop) (JV : yw_S → Prop) (JX : Nat × Nat → yw_S → Prop) : Prop :=
  (∀ b d q T, Y b q T → Y (b + d) q T) ∧
  (∀ b A m T, A ≤ 48 → m < n → 3 ≤ K m → yw_dn T (A * 48 + (m + 1)) = 0 → Y b (A * 48 + (m + 1)) T → Y (b + 1) (A * 48 + m) T) ∧
  (∀ b A m T, A ≤ 48 → m < n → 3 ≤ K m → K m ≠ 6 → yw_dn T (A * 48 + (m + 1)) = 1 → yw_dn T (A * 48 + e (m + 1)) = 0 → Y b (A * 48 + e (m + 1)) T → Y (b + 1) (A * 48 + m) T) ∧
  (∀ b A m T i, A ≤ 48 → m < n → K m = 6 → yw_dn T (A * 48 + (m + 1)) = 1 → yw_fn T (A * 48 + (m + 1)) = -1 → yw_vl T (A * 48 + (m + 1)) = i → yw_dn T (A * 48 + (if i = 0 then e (m + 1) else e (e (m + 1)))) = 0 → Y b (A * 48 + (if i = 0 then e (m + 1) else e (e (m + 1)))) T → Y (b + 1) (A * 48 + m) T) ∧
  (∀ b A m T q, A ≤ 48 → m < n → K m = 3 → yw_dn T (A * 48 + (m + 1)) = 1 → yw_dn T (A * 48 + e (m + 1)) = 1 → yw_et T (A * 48 + m) = q → 0 < q → q < 2352 → yw_dn T q = 0 → Y b q T → Y (b + 1) (A * 48 + m) T) ∧
  -- cells that get their value
  (∀ b A m T q, A ≤ 48 → m < n → K m = 0 → (A * 48 + m ≠ 0 → yw_dn T 0 = 0) → yw_bi T (A * 16 + bl m) = q → q < 2352 → ((A * 48 + m = 0 → JV (yw_fin (A * 48 + m) (yw_fn T q) (yw_vl T q) T)) ∧ (A * 48 + m ≠ 0 → Y b 0 (yw_fin (A * 48 + m) (yw_fn T q) (yw_vl T q) T))) → Y (b + 1) (A * 48 + m) T) ∧
  (∀ b A m T, A ≤ 48 → m < n → K m = 1 → (A * 48 + m ≠ 0 → yw_dn T 0 = 0) → ((A * 48 + m = 0 → JV (yw_fin (A * 48 + m) (-1) (op m) T)) ∧ (A * 48 + m ≠ 0 → Y b 0 (yw_fin (A * 48 + m) (-1) (op m) T))) → Y (b + 1) (A * 48 + m) T) ∧
  (∀ b A m T, A ≤ 48 → m < n → K m = 2 → T.2.1 = cm → JX (5, m) T → Y (b + 1) (A * 48 + m) T) ∧
  (∀ b A m T, A ≤ 48 → m < n → K m = 2 → (A * 48 + m ≠ 0 → yw_dn T 0 = 0) → T.2.1 < cm → ((A * 48 + m = 0 → JV (yw_fin (A * 48 + m) (nI (lc m)) (nI A) (yw_inc T))) ∧ (A * 48 + m ≠ 0 → Y b 0 (yw_fin (A * 48 + m) (nI (lc m)) (nI A) (yw_inc T)))) → Y (b + 1) (A * 48 + m) T) ∧
  (∀ b A m T l, A ≤ 48 → m < n → K m = 6 → yw_dn T (A * 48 + (m + 1)) = 1 → yw_fn T (A * 48 + (m + 1)) = nI l → l < 16 → JX (3, m) T → Y (b + 1) (A * 48 + m) T) ∧
  (∀ b A m T i q, A ≤ 48 → m < n → K m = 6 → (A * 48 + m ≠ 0 → yw_dn T 0 = 0) → yw_dn T (A * 48 + (m + 1)) = 1 → yw_fn T (A * 48 + (m + 1)) = -1 → yw_vl T (A * 48 + (m + 1)) = i → q = A * 48 + (if i = 0 then e (m + 1) else e (e (m + 1))) → yw_dn T q = 1 → ((A * 48 + m = 0 → JV (yw_fin (A * 48 + m) (yw_fn T q) (yw_vl T q) T)) ∧ (A * 48 + m ≠ 0 → Y b 0 (yw_fin (A * 48 + m) (yw_fn T q) (yw_vl T q) T))) → Y (b + 1) (A * 48 + m) T) ∧
  (∀ b A m T, A ≤ 48 → m < n → (K m = 4 ∨ K m = 5) → (A * 48 + m ≠ 0 → yw_dn T 0 = 0) → yw_dn T (A * 48 + (m + 1)) = 1 → yw_dn T (A * 48 + e (m + 1)) = 1 → yw_fn T (A * 48 + (m + 1)) = -1 → yw_fn T (A * 48 + e (m + 1)) = -1 → ((A * 48 + m = 0 → JV (yw_fin (A * 48 + m) (-1) (if K m = 4 then yw_vl T (A * 48 + (m + 1)) + yw_vl T (A * 48 + e (m + 1)) else yw_vl T (A * 48 + (m + 1)) - yw_vl T (A * 48 + e (m + 1))) T)) ∧ (A * 48 + m ≠ 0 → Y b 0 (yw_fin (A * 48 + m) (-1) (if K m = 4 then yw_vl T (A * 48 + (m + 1)) + yw_vl T (A * 48 + e (m + 1)) else yw_vl T (A * 48 + (m + 1)) - yw_vl T (A * 48 + e (m + 1))) T))) → Y (b + 1) (A * 48 + m) T) ∧
  (∀ b A m T, A ≤ 48 → m < n → (K m = 4 ∨ K m = 5) → yw_dn T (A * 48 + (m + 1)) = 1 → yw_dn T (A * 48 + e (m + 1)) = 1 → ((∃ l, l < 16 ∧ yw_fn T (A * 48 + (m + 1)) = nI l) ∨ (yw_fn T (A * 48 + (m + 1)) = -1 ∧ ∃ l, l < 16 ∧ yw_fn T (A * 48 + e (m + 1)) = nI l)) → JX (3, m) T → Y (b + 1) (A * 48 + m) T) ∧
  (∀ b A m T, A ≤ 48 → m < n → K m = 3 → yw_dn T (A * 48 + (m + 1)) = 1 → yw_dn T (A * 48 + e (m + 1)) = 1 → yw_et T (A * 48 + m) = 0 → yw_fn T (A * 48 + (m + 1)) = -1 → JX (3, m) T → Y (b + 1) (A * 48 + m) T) ∧
  (∀ b A m T l, A ≤ 48 → m < n → K m = 3 → yw_dn T (A * 48 + (m + 1)) = 1 → yw_dn T (A * 48 + e (m + 1)) = 1 → yw_et T (A * 48 + m) = 0 → yw_fn T (A * 48 + (m + 1)) = nI l → l < 16 → T.1 = cl → JX (4, m) T → Y (b + 1) (A * 48 + m) T) ∧
  (∀ b A m T p A', A ≤ 48 → m < n → K m = 3 → yw_dn T (A * 48 + (m + 1)) = 1 → yw_dn T (A * 48 + e (m + 1)) = 1 → yw_et T (A * 48 + m) = 0 → p < n → K p = 2 → yw_fn T (A * 48 + (m + 1)) = nI (lc p) → yw_vl T (A * 48 + (m + 1)) = nI A' → A' ≤ 48 → T.1 < cl → yw_dn T 0 = 0 → yw_dn T (A * 48 + m) = 0 → Y b 0 (yw_call bm m (A * 48 + m) A' (lc p) (A * 48 + e (m + 1)) p T) → Y (b + 1) (A * 48 + m) T) ∧
  (∀ b A m T q l, A ≤ 48 → m < n → K m = 3 → (A * 48 + m ≠ 0 → yw_dn T 0 = 0) → yw_dn T (A * 48 + (m + 1)) = 1 → yw_dn T (A * 48 + e (m + 1)) = 1 → yw_et T (A * 48 + m) = q → 0 < q → q < 2352 → yw_dn T q = 1 → yw_dn T (A * 48 + m) = 0 → yw_fn T (A * 48 + (m + 1)) = nI l → l < 16 → ((A * 48 + m = 0 → JV (yw_fin (A * 48 + m) (yw_fn T q) (yw_vl T q) T)) ∧ (A * 48 + m ≠ 0 → Y b 0 (yw_fin (A * 48 + m) (yw_fn T q) (yw_vl T q) T))) → Y (b + 1) (A * 48 + m) T)
/-! ghosts: kap tells the activation of a closure -/
def yw_v (lc : Nat → Nat) (s : ev_S) (kap : Nat → Nat) (v : ev_V) (x y : Int32) : Prop := (∀ i, v = .inl i → x = -1 ∧ y = i) ∧ (∀ k, v = .inr k → x = nI (lc (s.2.2.1 k)) ∧ y = nI (kap k))
def yw_E (K N lc : Nat → Nat) (sc : Nat → Nat → Bool) (n : Nat) (s : ev_S) (kap : Nat → Nat) (T : yw_S) (A m : Nat) (env : Nat → ev_V) : Prop := ∀ b, b < n → K b = 2 → sc m (lc b) = true → yw_bi T (A * 16 + lc b) < 2352 ∧ yw_dn T (yw_bi T (A * 16 + lc b)) = 1 ∧ yw_v lc s kap (env (N b)) (yw_fn T (yw_bi T (A * 16 + lc b))) (yw_vl T (yw_bi T (A * 16 + lc b)))
def yw_Q (K N lc : Nat → Nat) (sc : Nat → Nat → Bool) (n : Nat) (s : ev_S) (kap : Nat → Nat) (T : yw_S) : Prop := T.1 = s.1 ∧ T.2.1 = s.2.1 ∧ yw_cs T = s.2.2.2.2 ∧ ∀ k, k < s.2.1 → kap k ≤ s.1 ∧ yw_E K N lc sc n s kap T (kap k) (s.2.2.1 k) (s.2.2.2.1 k)
/-- activations behind c are untouched -/
def yw_G (c : Nat) (T : yw_S) : Prop := ∀ A m, c < A → A ≤ 48 → m < 48 → yw_dn T (A * 48 + m) = 0 ∧ yw_et T (A * 48 + m) = 0
/-- the cells of [lo, hi) in activation A are untouched -/
def yw_F (A lo hi : Nat) (T : yw_S) : Prop := ∀ m, lo ≤ m → m < hi → yw_dn T (A * 48 + m) = 0 ∧ yw_et T (A * 48 + m) = 0
/-- nothing has changed but in [lo, hi) of activation A, and behind c -/
def yw_same (A lo hi c : Nat) (T T' : yw_S) : Prop := (∀ A' m, A' ≤ c → m < 48 → ¬ (A' = A ∧ lo ≤ m ∧ m < hi) → yw_dn T' (A' * 48 + m) = yw_dn T (A' * 48 + m) ∧ yw_fn T' (A' * 48 + m) = yw_fn T (A' * 48 + m) ∧ yw_vl T' (A' * 48 + m) = yw_vl T (A' * 48 + m) ∧ yw_et T' (A' * 48 + m) = yw_et T (A' * 48 + m)) ∧ (∀ A' l, A' ≤ c → l < 16 → yw_bi T' (A' * 16 + l) = yw_bi T (A' * 16 + l))
theorem yw_same_r (A lo hi c : Nat) (T : yw_S) : yw_same A lo hi c T T := ⟨fun _ _ _ _ _ => ⟨rfl, rfl, rfl, rfl⟩, fun _ _ _ _ => rfl⟩
theorem yw_same_t {A lo hi c lo1 hi1 lo2 hi2 c2 : Nat} {T T1 T2 : yw_S} (h : yw_same A lo1 hi1 c T T1) (g : yw_same A lo2 hi2 c2 T1 T2) (hc : c ≤ c2) (a1 : lo ≤ lo1) (a2 : hi1 ≤ hi) (a3 : lo ≤ lo2) (a4 : hi2 ≤ hi) : yw_same A lo hi c T T2 := by
  refine ⟨fun A' m x y z => ?_, fun A' l x y => ?_⟩
  · obtain ⟨p1, p2, p3, p4⟩ := h.1 A' m x y (fun w => z ⟨w.1, by omega, by omega⟩)
    obtain ⟨q1, q2, q3, q4⟩ := g.1 A' m (by omega) y (fun w => z ⟨w.1, by omega, by omega⟩)
    exact ⟨q1.trans p1, q2.trans p2, q3.trans p3, q4.trans p4⟩
  · exact (g.2 A' l (by omega) y).trans (h.2 A' l x y)
/-- what happens in a later activation leaves the earlier ones alone -/
theorem yw_same_b {A B lo hi c c2 l h : Nat} {T T' : yw_S} (g : yw_same B lo hi c2 T T') (hc : c ≤ c2) (hB : c < B) : yw_same A l h c T T' :=
  ⟨fun A' m x y _ => g.1 A' m (by omega) y (fun w => by omega), fun A' l x y => g.2 A' l (by omega) y⟩
/-- a done cell stays as it is -/
theorem yw_stay {A lo hi c q : Nat} {T T' : yw_S} (h : yw_same A lo hi c T T') (F : ∀ m, lo ≤ m → m < hi → yw_dn T (A * 48 + m) = 0) (G : yw_G c T) (hq : q < 2352) (d : yw_dn T q = 1) : yw_dn T' q = 1 ∧ yw_fn T' q = yw_fn T q ∧ yw_vl T' q = yw_vl T q := by
  have e : q / 48 * 48 + q % 48 = q := by omega
  have hm : q % 48 < 48 := by omega
  have hA : q / 48 ≤ 48 := by omega
  rcases Nat.lt_or_ge c (q / 48) with z | z
  · have := (G (q / 48) (q % 48) z hA hm).1
    rw [e, d] at this
    cases this
  · by_cases y : q / 48 = A ∧ lo ≤ q % 48 ∧ q % 48 < hi
    · have := F (q % 48) y.2.1 y.2.2
      rw [← y.1, e, d] at this
      cases this
    · obtain ⟨p1, p2, p3, _⟩ := h.1 (q / 48) (q % 48) z hm y
      rw [e] at p1 p2 p3
      exact ⟨p1.trans d, p2, p3⟩
section
variable {K e N ix bl lc bd : Nat → Nat} {sc : Nat → Nat → Bool} {op bm : Nat → Int32} {cl cm n L : Nat}
theorem yw_v_up {s s' : ev_S} {kap kap' : Nat → Nat} {v : ev_V} {x y : Int32} (h : yw_v lc s kap v x y) (X : ev_X s s') (hk : ∀ k, k < s.2.1 → kap' k = kap k) (o : ev_ok s.2.1 v) : yw_v lc s' kap' v x y :=
  ⟨h.1, fun k e => by rw [(X.2.2 k (o k e)).1, hk k (o k e)]; exact h.2 k e⟩
theorem yw_E_up (B : so_B K e N ix bl lc bd sc n L) (hL : L ≤ 16) {s s' : ev_S} {kap kap' : Nat → Nat} {T T' : yw_S} {A A1 lo hi c m m' : Nat} {env : Nat → ev_V} (h : yw_E K N lc sc n s kap T A m env) (hm : m < n) (hs : ∀ l, sc m' l = sc m l) (X : ev_X s s') (hk : ∀ k, k < s.2.1 → kap' k = kap k) (o : ev_E N m env s) (hA : A ≤ c) (S : yw_same A1 lo hi c T T') (F : ∀ m, lo ≤ m → m < hi → yw_dn T (A1 * 48 + m) = 0) (G : yw_G c T) : yw_E K N lc sc n s' kap' T' A m' env := by
  intro b hb kb z
  rw [hs] at z
  obtain ⟨p1, p2, p3⟩ := h b hb kb z
  have hl := (B.2.2.1 b hb kb).2
  rw [S.2 A (lc b) hA (by omega)]
  obtain ⟨r1, r2, r3⟩ := yw_stay S F G p1 p2
  rw [r2, r3]
  exact ⟨p1, r1, yw_v_up p3 X hk (o _ (B.2.2.2.2.1 m hm b hb kb z))⟩
/-- the closures of a state under a change elsewhere -/
theorem yw_Q_up (B : so_B K e N ix bl lc bd sc n L) (hL : L ≤ 16) {s : ev_S} {kap : Nat → Nat} {T T' : yw_S} {A lo hi : Nat} (W : ev_W K N n cl cm s) (Q : yw_Q K N lc sc n s kap T) (S : yw_same A lo hi s.1 T T') (F : ∀ m, lo ≤ m → m < hi → yw_dn T (A * 48 + m) = 0) (G : yw_G s.1 T) (c1 : T'.1 = T.1) (c2 : T'.2.1 = T.2.1) (c3 : yw_cs T' = yw_cs T) : yw_Q K N lc sc n s kap T' := by
  refine ⟨c1.trans Q.1, c2.trans Q.2.1, c3.trans Q.2.2.1, fun k hk => ?_⟩
  obtain ⟨a1, a2⟩ := Q.2.2.2 k hk
  obtain ⟨w1, w2, w3⟩ := W.2.2 k hk
  exact ⟨a1, yw_E_up B hL a2 w1 (fun _ => rfl) (ev_X_r s) (fun _ _ => rfl) w3 a1 S F G⟩
end
