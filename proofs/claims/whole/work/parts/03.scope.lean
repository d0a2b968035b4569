/-! ===== nests and scopes: N m LAMs enclose m; sc m l: the LAM of lambda l encloses m ===== -/
def tr_bc (f : Nat → Bool) : Nat → Nat
  | 0 => 0
  | j + 1 => tr_bc f j + (if f j = true then 1 else 0)
def tr_N (K P N : Nat → Nat) (n : Nat) : Prop := ∀ m, m < n → (m = 0 → N m = 0) ∧ (0 < m → N m = N (P m) + (if K (P m) = 2 then 1 else 0))
def tr_S (K P : Nat → Nat) (sc : Nat → Nat → Bool) (n : Nat) : Prop := ∀ m, m < n → (m = 0 → ∀ l, sc m l = false) ∧ (0 < m → ∀ l, sc m l = (sc (P m) l || (decide (K (P m) = 2) && decide (l = tr_lc K (P m)))))
theorem tr_bc_c {f g : Nat → Bool} : ∀ j, (∀ l, l < j → f l = g l) → tr_bc f j = tr_bc g j := by
  intro j
  induction j with
  | zero => intro _; rfl
  | succ j ih =>
    intro h
    show tr_bc f j + (if f j = true then 1 else 0) = tr_bc g j + (if g j = true then 1 else 0)
    rw [ih (fun l hl => h l (by omega)), h j (by omega)]
theorem tr_bc_le {f : Nat → Bool} {a : Nat} : ∀ d, tr_bc f a ≤ tr_bc f (a + d) := by
  intro d
  induction d with
  | zero => exact Nat.le_refl _
  | succ d ih =>
    show tr_bc f a ≤ tr_bc f (a + d) + (if f (a + d) = true then 1 else 0)
    exact Nat.le_trans ih (Nat.le_add_right _ _)
theorem tr_bc_lt {f : Nat → Bool} {a b : Nat} (h : a < b) (ha : f a = true) : tr_bc f a < tr_bc f b := by
  have h1 : tr_bc f (a + 1) = tr_bc f a + 1 := by
    show tr_bc f a + (if f a = true then 1 else 0) = _
    rw [if_pos ha]
  have h2 := tr_bc_le (f := f) (a := a + 1) (b - (a + 1))
  rw [Nat.add_sub_cancel' (show a + 1 ≤ b by omega)] at h2
  omega
theorem tr_bc_top {f : Nat → Bool} {a : Nat} (h : ∀ l, a ≤ l → f l = false) : ∀ d, tr_bc f (a + d) = tr_bc f a := by
  intro d
  induction d with
  | zero => rfl
  | succ d ih =>
    show tr_bc f (a + d) + (if f (a + d) = true then 1 else 0) = _
    rw [h (a + d) (by omega), ih]
    simp
theorem tr_bc_none {f : Nat → Bool} (h : ∀ l, f l = false) : ∀ j, tr_bc f j = 0 := by
  intro j
  induction j with
  | zero => rfl
  | succ j ih =>
    show tr_bc f j + (if f j = true then 1 else 0) = 0
    rw [ih, h j]
    simp
/-- what one step up says of a scope -/
theorem tr_sc_up {K P : Nat → Nat} {sc : Nat → Nat → Bool} {n m l : Nat} (S : tr_S K P sc n) (hm : m < n) (h : sc m l = true) : 0 < m ∧ (sc (P m) l = true ∨ (K (P m) = 2 ∧ l = tr_lc K (P m))) := by
  have h0 : 0 < m := by
    rcases Nat.eq_zero_or_pos m with z | z
    · rw [(S m hm).1 z l] at h; cases h
    · exact z
  refine ⟨h0, ?_⟩
  rw [(S m hm).2 h0 l, Bool.or_eq_true, Bool.and_eq_true, decide_eq_true_iff, decide_eq_true_iff] at h
  exact h
theorem tr_sc_lt {K P : Nat → Nat} {sc : Nat → Nat → Bool} {n : Nat} (O : tr_Ok K P n) (S : tr_S K P sc n) : ∀ m, m < n → ∀ l, sc m l = true → l < tr_lc K m := by
  intro m
  induction m using Nat.strongRecOn with
  | _ m ih =>
    intro hm l h
    obtain ⟨h0, h1⟩ := tr_sc_up S hm h
    have hp := (O m h0 hm).1
    rcases h1 with h1 | ⟨h1, h2⟩
    · have := ih (P m) hp (by omega) l h1
      have := tr_lc_le (K := K) (show P m ≤ m by omega)
      omega
    · have := tr_lc_lt hp h1
      omega
theorem tr_sc_top {K P : Nat → Nat} {sc : Nat → Nat → Bool} {n m : Nat} (O : tr_Ok K P n) (S : tr_S K P sc n) (hm : m < n) : ∀ l, tr_lc K m ≤ l → sc m l = false := by
  intro l hl
  cases e : sc m l with
  | false => rfl
  | true => have := tr_sc_lt O S m hm l e; omega
/-- the nest is the number of lambdas in the scope -/
theorem tr_sc_N {K P N : Nat → Nat} {sc : Nat → Nat → Bool} {n : Nat} (O : tr_Ok K P n) (Nn : tr_N K P N n) (S : tr_S K P sc n) : ∀ m, m < n → ∀ j, tr_lc K m ≤ j → tr_bc (sc m) j = N m := by
  intro m
  induction m using Nat.strongRecOn with
  | _ m ih =>
    intro hm j hj
    rcases Nat.eq_zero_or_pos m with z | z
    · rw [(Nn m hm).1 z]
      exact tr_bc_none ((S m hm).1 z) j
    · have hp := (O m z hm).1
      have hq : P m < n := by omega
      rw [(Nn m hm).2 z]
      by_cases k : K (P m) = 2
      · rw [if_pos k]
        have hl := tr_lc_lt hp k
        have e1 : tr_bc (sc m) (tr_lc K (P m)) = N (P m) := by
          rw [← ih (P m) hp hq (tr_lc K (P m)) (Nat.le_refl _)]
          refine tr_bc_c _ (fun l h => ?_)
          rw [(S m hm).2 z l, decide_eq_false (show ¬ l = tr_lc K (P m) by omega), Bool.and_false, Bool.or_false]
        have e2 : tr_bc (sc m) (tr_lc K (P m) + 1) = N (P m) + 1 := by
          show tr_bc (sc m) (tr_lc K (P m)) + (if sc m (tr_lc K (P m)) = true then 1 else 0) = _
          rw [e1, if_pos (by rw [(S m hm).2 z _, decide_eq_true k, decide_eq_true rfl, Bool.and_true, Bool.or_true])]
        have e3 := tr_bc_top (f := sc m) (a := tr_lc K (P m) + 1) (fun l h => by
          rw [(S m hm).2 z l, tr_sc_top O S hq l (by omega), decide_eq_false (show ¬ l = tr_lc K (P m) by omega), Bool.and_false, Bool.or_false]) (j - (tr_lc K (P m) + 1))
        rw [Nat.add_sub_cancel' (show tr_lc K (P m) + 1 ≤ j by omega)] at e3
        rw [e3, e2]
      · rw [if_neg k, Nat.add_zero, ← ih (P m) hp hq j (by have := tr_lc_le (K := K) (show P m ≤ m by omega); omega)]
        refine tr_bc_c _ (fun l h => ?_)
        rw [(S m hm).2 z l, decide_eq_false k, Bool.false_and, Bool.or_false]
/-- the lambdas below l in a scope that holds l are those that enclose the LAM of l -/
theorem tr_sc_rank {K P N : Nat → Nat} {sc : Nat → Nat → Bool} {n : Nat} (O : tr_Ok K P n) (Nn : tr_N K P N n) (S : tr_S K P sc n) : ∀ m, m < n → ∀ l, sc m l = true → ∃ a, a < m ∧ K a = 2 ∧ tr_lc K a = l ∧ tr_bc (sc m) l = N a ∧ ∀ l', l' < l → sc m l' = sc a l' := by
  intro m
  induction m using Nat.strongRecOn with
  | _ m ih =>
    intro hm l h
    obtain ⟨z, h1⟩ := tr_sc_up S hm h
    have hp := (O m z hm).1
    have hq : P m < n := by omega
    have low : ∀ l', l' < tr_lc K (P m) → sc m l' = sc (P m) l' := fun l' h' => by
      rw [(S m hm).2 z l', decide_eq_false (show ¬ l' = tr_lc K (P m) by omega), Bool.and_false, Bool.or_false]
    by_cases k : sc (P m) l = true
    · have hl := tr_sc_lt O S (P m) hq l k
      obtain ⟨a, a1, a2, a3, a4, a5⟩ := ih (P m) hp hq l k
      refine ⟨a, by omega, a2, a3, ?_, fun l' h' => ?_⟩
      · rw [← a4]
        exact tr_bc_c _ (fun l' h' => low l' (by omega))
      · rw [low l' (by omega), a5 l' h']
    · rcases h1 with h1 | ⟨h1, h2⟩
      · exact absurd h1 k
      · refine ⟨P m, hp, h1, h2.symm, ?_, fun l' h' => low l' (by omega)⟩
        rw [← tr_sc_N O Nn S (P m) hq l (by omega)]
        exact tr_bc_c _ (fun l' h' => low l' (by omega))
theorem tr_sc_nest {K P N : Nat → Nat} {sc : Nat → Nat → Bool} {n m a : Nat} (O : tr_Ok K P n) (Nn : tr_N K P N n) (S : tr_S K P sc n) (hm : m < n) (ka : K a = 2) (h : sc m (tr_lc K a) = true) : a < m ∧ N a < N m ∧ tr_bc (sc m) (tr_lc K a) = N a ∧ ∀ l', l' < tr_lc K a → sc m l' = sc a l' := by
  obtain ⟨b, b1, b2, b3, b4, b5⟩ := tr_sc_rank O Nn S m hm _ h
  have e := tr_lc_inj b2 ka b3
  subst e
  refine ⟨b1, ?_, b4, b5⟩
  have h1 := tr_bc_lt (f := sc m) (b := tr_lc K m) (tr_lc_lt b1 ka) h
  rw [tr_sc_N O Nn S m hm _ (Nat.le_refl _)] at h1
  omega
/-- the binder is one: in one scope the nest tells the LAM -/
theorem tr_sc_uniq {K P N : Nat → Nat} {sc : Nat → Nat → Bool} {n m a b : Nat} (O : tr_Ok K P n) (Nn : tr_N K P N n) (S : tr_S K P sc n) (hm : m < n) (ka : K a = 2) (kb : K b = 2) (ha : sc m (tr_lc K a) = true) (hb : sc m (tr_lc K b) = true) (e : N a = N b) : a = b := by
  obtain ⟨_, _, a3, _⟩ := tr_sc_nest O Nn S hm ka ha
  obtain ⟨_, _, b3, _⟩ := tr_sc_nest O Nn S hm kb hb
  rcases Nat.lt_trichotomy (tr_lc K a) (tr_lc K b) with h | h | h
  · have := tr_bc_lt (f := sc m) h ha; omega
  · exact tr_lc_inj ka kb h
  · have := tr_bc_lt (f := sc m) h hb; omega
/-- of two LAMs around m the outer one encloses the inner one -/
theorem tr_sc_in {K P N : Nat → Nat} {sc : Nat → Nat → Bool} {n m a b : Nat} (O : tr_Ok K P n) (Nn : tr_N K P N n) (S : tr_S K P sc n) (hm : m < n) (ka : K a = 2) (kb : K b = 2) (ha : sc m (tr_lc K a) = true) (hb : sc m (tr_lc K b) = true) (h : a < b) : sc b (tr_lc K a) = true := by
  obtain ⟨_, _, _, b4⟩ := tr_sc_nest O Nn S hm kb hb
  rw [← b4 _ (tr_lc_lt h ka)]
  exact ha
