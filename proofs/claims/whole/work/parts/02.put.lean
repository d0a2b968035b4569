/-! ===== sums, the number of holes, a new node ===== -/
def tr_sum (f : Nat → Nat) : Nat → Nat
  | 0 => 0
  | n + 1 => tr_sum f n + f n
theorem tr_sum_c {f g : Nat → Nat} : ∀ n, (∀ i, i < n → f i = g i) → tr_sum f n = tr_sum g n := by
  intro n
  induction n with
  | zero => intro _; rfl
  | succ n ih =>
    intro h
    show tr_sum f n + f n = tr_sum g n + g n
    rw [ih (fun i hi => h i (by omega)), h n (by omega)]
theorem tr_sum_le {f g : Nat → Nat} : ∀ n, (∀ i, i < n → f i ≤ g i) → tr_sum f n ≤ tr_sum g n := by
  intro n
  induction n with
  | zero => intro _; exact Nat.le_refl _
  | succ n ih =>
    intro h
    have h1 := ih (fun i hi => h i (by omega))
    have h2 := h n (by omega)
    show tr_sum f n + f n ≤ tr_sum g n + g n
    omega
theorem tr_sum_same {f g : Nat → Nat} : ∀ n, (∀ i, i < n → f i ≤ g i) → tr_sum f n = tr_sum g n → ∀ i, i < n → f i = g i := by
  intro n
  induction n with
  | zero => intro _ _ i hi; exact absurd hi (Nat.not_lt_zero i)
  | succ n ih =>
    intro h e i hi
    have h1 := tr_sum_le n (fun i hi => h i (Nat.lt_succ_of_lt hi))
    have h2 := h n (by omega)
    have e' : tr_sum f n + f n = tr_sum g n + g n := e
    by_cases z : i = n
    · subst z; omega
    · exact ih (fun i hi => h i (by omega)) (by omega) i (by omega)
theorem tr_sum_add (f g : Nat → Nat) : ∀ n, tr_sum (fun i => f i + g i) n = tr_sum f n + tr_sum g n := by
  intro n
  induction n with
  | zero => rfl
  | succ n ih =>
    show tr_sum (fun i => f i + g i) n + (f n + g n) = (tr_sum f n + f n) + (tr_sum g n + g n)
    omega
theorem tr_sum_0 : ∀ n, tr_sum (fun _ => 0) n = 0 := by
  intro n
  induction n with
  | zero => rfl
  | succ n ih => exact ih
theorem tr_sum_one (x : Nat) : ∀ n, tr_sum (fun p => if x = p then 1 else 0) n = if x < n then 1 else 0 := by
  intro n
  induction n with
  | zero => rfl
  | succ n ih =>
    show tr_sum (fun p => if x = p then 1 else 0) n + (if x = n then 1 else 0) = _
    rw [ih]
    by_cases h1 : x < n
    · rw [if_pos h1, if_neg (by omega), if_pos (by omega)]
    · by_cases h2 : x = n
      · rw [if_neg h1, if_pos h2, if_pos (by omega)]
      · rw [if_neg h1, if_neg h2, if_neg (by omega)]
/-- every node but the root is the child of one node -/
theorem tr_edges {K P : Nat → Nat} {n : Nat} (O : tr_Ok K P n) : ∀ m, 0 < m → m ≤ n → tr_sum (fun p => tr_cnt P p m) n = m - 1 := by
  intro m
  induction m with
  | zero => intro h; omega
  | succ m ih =>
    intro _ hm
    by_cases z : 0 < m
    · have h1 := ih z (by omega)
      have h2 := (O m z (by omega)).1
      have e : tr_sum (fun p => tr_cnt P p (m + 1)) n = tr_sum (fun p => tr_cnt P p m + (if P m = p then 1 else 0)) n := by
        refine tr_sum_c n (fun p _ => ?_)
        by_cases y : P m = p
        · rw [tr_cnt_s z y, if_pos y]
        · rw [tr_cnt_n (fun w => y w.2), if_neg y, Nat.add_zero]
      rw [e, tr_sum_add, h1, tr_sum_one, if_pos (by omega)]
      omega
    · have e : m = 0 := by omega
      subst e
      have e : tr_sum (fun p => tr_cnt P p (0 + 1)) n = tr_sum (fun _ => 0) n := by
        refine tr_sum_c n (fun p _ => ?_)
        rw [tr_cnt_n (fun w => absurd w.1 (Nat.lt_irrefl 0))]
        rfl
      rw [e, tr_sum_0]
/-- h holes: h + n = 1 + the sum of the arities -/
def tr_H (K : Nat → Nat) (n h : Nat) : Prop := h + n = 1 + tr_sum (fun i => tr_ar (K i)) n
theorem tr_full_of {K P : Nat → Nat} {n : Nat} (O : tr_Ok K P n) (H : tr_H K n 0) : tr_Full K P n := by
  have H' : 0 + n = 1 + tr_sum (fun i => tr_ar (K i)) n := H
  have h := tr_edges O n (by omega) (Nat.le_refl n)
  exact tr_sum_same n (fun p _ => tr_cnt_ar O n (Nat.le_refl n)) (by omega)
theorem tr_open_ex {K P : Nat → Nat} {n h : Nat} (O : tr_Ok K P n) (H : tr_H K n h) (hn : 0 < n) (hh : 0 < h) : ∃ p, p < n ∧ tr_cnt P p n < tr_ar (K p) := by
  have H' : h + n = 1 + tr_sum (fun i => tr_ar (K i)) n := H
  have e := tr_edges O n hn (Nat.le_refl n)
  by_cases z : ∃ p, p < n ∧ tr_cnt P p n < tr_ar (K p)
  · exact z
  · have := tr_sum_le (f := fun i => tr_ar (K i)) (g := fun p => tr_cnt P p n) n (fun p hp => by
      rcases Nat.lt_or_ge (tr_cnt P p n) (tr_ar (K p)) with q | q
      · exact absurd ⟨p, hp, q⟩ z
      · exact q)
    omega
/-! a new node n of kind k under p -/
def tr_put (f : Nat → Nat) (n x : Nat) : Nat → Nat := fun j => if j = n then x else f j
theorem tr_put_s (f : Nat → Nat) (n x : Nat) : tr_put f n x n = x := if_pos rfl
theorem tr_put_n (f : Nat → Nat) {n j : Nat} (x : Nat) (h : j ≠ n) : tr_put f n x j = f j := if_neg h
theorem tr_cnt_put (P : Nat → Nat) (n x p : Nat) : ∀ m, m ≤ n → tr_cnt (tr_put P n x) p m = tr_cnt P p m := by
  intro m
  induction m with
  | zero => intro _; rfl
  | succ m ih =>
    intro h
    show tr_cnt (tr_put P n x) p m + (if 0 < m ∧ tr_put P n x m = p then 1 else 0) = tr_cnt P p m + (if 0 < m ∧ P m = p then 1 else 0)
    rw [ih (by omega), tr_put_n P x (show m ≠ n by omega)]
theorem tr_Ok_put {K P : Nat → Nat} {n k p : Nat} (O : tr_Ok K P n) (hp : 0 < n → p < n ∧ tr_cnt P p n < tr_ar (K p) ∧ ∀ q, p < q → q < n → tr_ar (K q) ≤ tr_cnt P q n) : tr_Ok (tr_put K n k) (tr_put P n p) (n + 1) := by
  intro m h0 h1
  by_cases e : m = n
  · subst e
    obtain ⟨a1, a2, a3⟩ := hp h0
    rw [tr_put_s, tr_cnt_put P m p p m (Nat.le_refl m), tr_put_n K k (show p ≠ m by omega)]
    refine ⟨a1, a2, fun q x y => ?_⟩
    rw [tr_put_n K k (show q ≠ m by omega), tr_cnt_put P m p q m (Nat.le_refl m)]
    exact a3 q x y
  · have hm : m < n := by omega
    obtain ⟨a1, a2, a3⟩ := O m h0 hm
    rw [tr_put_n P p e, tr_cnt_put P n p (P m) m (by omega), tr_put_n K k (show P m ≠ n by omega)]
    refine ⟨a1, a2, fun q x y => ?_⟩
    rw [tr_put_n K k (show q ≠ n by omega), tr_cnt_put P n p q m (by omega)]
    exact a3 q x y
theorem tr_H_put {K : Nat → Nat} {n h k : Nat} (H : tr_H K n h) (hh : 0 < h) : tr_H (tr_put K n k) (n + 1) (h + tr_ar k - 1) := by
  have H' : h + n = 1 + tr_sum (fun i => tr_ar (K i)) n := H
  show h + tr_ar k - 1 + (n + 1) = 1 + (tr_sum (fun i => tr_ar (tr_put K n k i)) n + tr_ar (tr_put K n k n))
  rw [tr_put_s, tr_sum_c (f := fun i => tr_ar (tr_put K n k i)) (g := fun i => tr_ar (K i)) n (fun i hi => by
    show tr_ar (tr_put K n k i) = tr_ar (K i)
    rw [tr_put_n K k (show i ≠ n by omega)])]
  omega
/-! ===== lambda numbers ===== -/
def tr_lc (K : Nat → Nat) : Nat → Nat
  | 0 => 0
  | m + 1 => tr_lc K m + (if K m = 2 then 1 else 0)
theorem tr_lc_s {K : Nat → Nat} {m : Nat} (h : K m = 2) : tr_lc K (m + 1) = tr_lc K m + 1 := by
  show tr_lc K m + (if K m = 2 then 1 else 0) = _
  rw [if_pos h]
theorem tr_lc_n {K : Nat → Nat} {m : Nat} (h : K m ≠ 2) : tr_lc K (m + 1) = tr_lc K m := by
  show tr_lc K m + (if K m = 2 then 1 else 0) = _
  rw [if_neg h, Nat.add_zero]
theorem tr_lc_mono (K : Nat → Nat) (m : Nat) : ∀ d, tr_lc K m ≤ tr_lc K (m + d) := by
  intro d
  induction d with
  | zero => exact Nat.le_refl _
  | succ d ih =>
    show tr_lc K m ≤ tr_lc K (m + d) + (if K (m + d) = 2 then 1 else 0)
    exact Nat.le_trans ih (Nat.le_add_right _ _)
theorem tr_lc_le {K : Nat → Nat} {a b : Nat} (h : a ≤ b) : tr_lc K a ≤ tr_lc K b := by
  have := tr_lc_mono K a (b - a)
  rwa [Nat.add_sub_cancel' h] at this
theorem tr_lc_lt {K : Nat → Nat} {a b : Nat} (h : a < b) (ha : K a = 2) : tr_lc K a < tr_lc K b := by
  have h1 := tr_lc_s ha
  have h2 := tr_lc_le (K := K) (show a + 1 ≤ b by omega)
  omega
theorem tr_lc_inj {K : Nat → Nat} {a b : Nat} (ha : K a = 2) (hb : K b = 2) (e : tr_lc K a = tr_lc K b) : a = b := by
  rcases Nat.lt_trichotomy a b with h | h | h
  · have := tr_lc_lt h ha; omega
  · exact h
  · have := tr_lc_lt h hb; omega
theorem tr_lc_find {K : Nat → Nat} {l : Nat} : ∀ n, l < tr_lc K n → ∃ m, m < n ∧ K m = 2 ∧ tr_lc K m = l := by
  intro n
  induction n with
  | zero => intro h; exact absurd h (Nat.not_lt_zero l)
  | succ n ih =>
    intro h
    by_cases z : K n = 2
    · rw [tr_lc_s z] at h
      by_cases e : l = tr_lc K n
      · exact ⟨n, by omega, z, e.symm⟩
      · obtain ⟨m, h1, h2, h3⟩ := ih (by omega)
        exact ⟨m, by omega, h2, h3⟩
    · rw [tr_lc_n z] at h
      obtain ⟨m, h1, h2, h3⟩ := ih h
      exact ⟨m, by omega, h2, h3⟩
theorem tr_lc_put (K : Nat → Nat) (n k : Nat) : ∀ m, m ≤ n → tr_lc (tr_put K n k) m = tr_lc K m := by
  intro m
  induction m with
  | zero => intro _; rfl
  | succ m ih =>
    intro h
    show tr_lc (tr_put K n k) m + (if tr_put K n k m = 2 then 1 else 0) = tr_lc K m + (if K m = 2 then 1 else 0)
    rw [ih (by omega), tr_put_n K k (show m ≠ n by omega)]
