/-! ===== the tree by its kinds and parents: counts of children, ends of subtrees ===== -/
def tr_ar (k : Nat) : Nat := if k = 2 then 1 else if k = 6 then 3 else if 3 ≤ k then 2 else 0
def tr_cnt (P : Nat → Nat) (p : Nat) : Nat → Nat
  | 0 => 0
  | m + 1 => tr_cnt P p m + (if 0 < m ∧ P m = p then 1 else 0)
/-- the parent of m is the greatest node that is open before m -/
def tr_Ok (K P : Nat → Nat) (n : Nat) : Prop :=
  ∀ m, 0 < m → m < n → P m < m ∧ tr_cnt P (P m) m < tr_ar (K (P m)) ∧ ∀ q, P m < q → q < m → tr_ar (K q) ≤ tr_cnt P q m
def tr_Full (K P : Nat → Nat) (n : Nat) : Prop := ∀ p, p < n → tr_cnt P p n = tr_ar (K p)
theorem tr_cnt_s {P : Nat → Nat} {p m : Nat} (h0 : 0 < m) (h : P m = p) : tr_cnt P p (m + 1) = tr_cnt P p m + 1 := by
  show tr_cnt P p m + (if 0 < m ∧ P m = p then 1 else 0) = _
  rw [if_pos ⟨h0, h⟩]
theorem tr_cnt_n {P : Nat → Nat} {p m : Nat} (h : ¬ (0 < m ∧ P m = p)) : tr_cnt P p (m + 1) = tr_cnt P p m := by
  show tr_cnt P p m + (if 0 < m ∧ P m = p then 1 else 0) = _
  rw [if_neg h, Nat.add_zero]
theorem tr_cnt_mono (P : Nat → Nat) (p m : Nat) : ∀ d, tr_cnt P p m ≤ tr_cnt P p (m + d) := by
  intro d
  induction d with
  | zero => exact Nat.le_refl _
  | succ d ih =>
    show tr_cnt P p m ≤ tr_cnt P p (m + d) + (if 0 < m + d ∧ P (m + d) = p then 1 else 0)
    exact Nat.le_trans ih (Nat.le_add_right _ _)
theorem tr_cnt_le {P : Nat → Nat} {p a b : Nat} (h : a ≤ b) : tr_cnt P p a ≤ tr_cnt P p b := by
  have := tr_cnt_mono P p a (b - a)
  rwa [Nat.add_sub_cancel' h] at this
/-- no node up to p has parent p -/
theorem tr_cnt_0 {K P : Nat → Nat} {n p : Nat} (O : tr_Ok K P n) : ∀ m, m ≤ n → m ≤ p + 1 → tr_cnt P p m = 0 := by
  intro m
  induction m with
  | zero => intro _ _; rfl
  | succ m ih =>
    intro h1 h2
    rw [tr_cnt_n (fun z => by have := (O m z.1 (by omega)).1; omega)]
    exact ih (by omega) (by omega)
theorem tr_cnt_ar {K P : Nat → Nat} {n p : Nat} (O : tr_Ok K P n) : ∀ m, m ≤ n → tr_cnt P p m ≤ tr_ar (K p) := by
  intro m
  induction m with
  | zero => intro _; exact Nat.zero_le _
  | succ m ih =>
    intro h
    have hi := ih (by omega)
    by_cases z : 0 < m ∧ P m = p
    · rw [tr_cnt_s z.1 z.2]
      have h2 := (O m z.1 (by omega)).2.1
      rw [z.2] at h2
      omega
    · rw [tr_cnt_n z]
      exact hi
/-- two nodes with one parent and one place are one -/
theorem tr_uniq {P : Nat → Nat} {p a b : Nat} (ha0 : 0 < a) (hb0 : 0 < b) (ha : P a = p) (hb : P b = p) (e : tr_cnt P p a = tr_cnt P p b) : a = b := by
  rcases Nat.lt_trichotomy a b with h | h | h
  · have h1 := tr_cnt_s ha0 ha
    have h2 := tr_cnt_le (P := P) (p := p) (show a + 1 ≤ b by omega)
    omega
  · exact h
  · have h1 := tr_cnt_s hb0 hb
    have h2 := tr_cnt_le (P := P) (p := p) (show b + 1 ≤ a by omega)
    omega
theorem tr_find {P : Nat → Nat} {p k : Nat} : ∀ n, k < tr_cnt P p n → ∃ c, 0 < c ∧ c < n ∧ P c = p ∧ tr_cnt P p c = k := by
  intro n
  induction n with
  | zero => intro h; exact absurd h (Nat.not_lt_zero k)
  | succ n ih =>
    intro h
    by_cases z : 0 < n ∧ P n = p
    · rw [tr_cnt_s z.1 z.2] at h
      by_cases e : k = tr_cnt P p n
      · exact ⟨n, z.1, by omega, z.2, e.symm⟩
      · obtain ⟨c, h1, h2, h3, h4⟩ := ih (by omega)
        exact ⟨c, h1, by omega, h3, h4⟩
    · rw [tr_cnt_n z] at h
      obtain ⟨c, h1, h2, h3, h4⟩ := ih h
      exact ⟨c, h1, by omega, h3, h4⟩
/-! the end of the subtree of p: the first m behind p whose parent is before p, or n -/
def tr_es (P : Nat → Nat) (n p : Nat) : Nat → Nat → Nat
  | 0, m => m
  | d + 1, m => if m < n ∧ p ≤ P m then tr_es P n p d (m + 1) else m
def tr_e (P : Nat → Nat) (n p : Nat) : Nat := tr_es P n p n (p + 1)
def tr_End (P : Nat → Nat) (n p x : Nat) : Prop := p < x ∧ x ≤ n ∧ (∀ m, p < m → m < x → p ≤ P m) ∧ (x < n → P x < p)
theorem tr_es_spec (P : Nat → Nat) (n p : Nat) : ∀ d m, p < m → m ≤ n → n ≤ m + d → (∀ j, p < j → j < m → p ≤ P j) → tr_End P n p (tr_es P n p d m) := by
  intro d
  induction d with
  | zero =>
    intro m h1 h2 h3 h4
    exact ⟨h1, h2, h4, fun z => absurd (show m < n from z) (by omega)⟩
  | succ d ih =>
    intro m h1 h2 h3 h4
    by_cases z : m < n ∧ p ≤ P m
    · rw [tr_es, if_pos z]
      refine ih (m + 1) (by omega) (by omega) (by omega) (fun j a b => ?_)
      by_cases e : j = m
      · rw [e]; exact z.2
      · exact h4 j a (by omega)
    · rw [tr_es, if_neg z]
      exact ⟨h1, h2, h4, fun y => by
        rcases Nat.lt_or_ge (P m) p with q | q
        · exact q
        · exact absurd ⟨y, q⟩ z⟩
theorem tr_e_spec {P : Nat → Nat} {n p : Nat} (h : p < n) : tr_End P n p (tr_e P n p) :=
  tr_es_spec P n p n (p + 1) (by omega) (by omega) (by omega) (fun j a b => by omega)
theorem tr_End_uniq {P : Nat → Nat} {n p x y : Nat} (hx : tr_End P n p x) (hy : tr_End P n p y) : x = y := by
  obtain ⟨a1, a2, a3, a4⟩ := hx
  obtain ⟨b1, b2, b3, b4⟩ := hy
  rcases Nat.lt_trichotomy x y with h | h | h
  · have := a4 (by omega)
    have := b3 x a1 h
    omega
  · exact h
  · have := b4 (by omega)
    have := a3 y b1 h
    omega
theorem tr_e_is {P : Nat → Nat} {n p x : Nat} (h : tr_End P n p x) : tr_e P n p = x :=
  tr_End_uniq (tr_e_spec (by have := h.1; have := h.2.1; omega)) h
/-- while p has an open place, parents lie at p or behind it -/
theorem tr_open {K P : Nat → Nat} {n p m : Nat} (O : tr_Ok K P n) (h1 : p < m) (h2 : m < n) (h : tr_cnt P p m < tr_ar (K p)) : p ≤ P m := by
  rcases Nat.lt_or_ge (P m) p with q | q
  · have := (O m (by omega) h2).2.2 p q h1
    omega
  · exact q
/-- a full node gets no child -/
theorem tr_shut {K P : Nat → Nat} {n p m : Nat} (O : tr_Ok K P n) (h0 : 0 < m) (h2 : m < n) (h : tr_ar (K p) ≤ tr_cnt P p m) : P m ≠ p := by
  intro e
  have := (O m h0 h2).2.1
  rw [e] at this
  omega
theorem tr_e_leaf {K P : Nat → Nat} {n p : Nat} (O : tr_Ok K P n) (hp : p < n) (h : tr_ar (K p) = 0) : tr_e P n p = p + 1 := by
  refine tr_e_is ⟨by omega, by omega, fun m a b => by omega, fun z => ?_⟩
  have h1 := (O (p + 1) (by omega) z).1
  have h2 := tr_shut (p := p) O (by omega) z (by omega)
  omega
theorem tr_first {K P : Nat → Nat} {n p : Nat} (O : tr_Ok K P n) (F : tr_Full K P n) (hp : p < n) (h : 0 < tr_ar (K p)) : p + 1 < n ∧ P (p + 1) = p ∧ tr_cnt P p (p + 1) = 0 := by
  obtain ⟨c, c0, c1, c2, c3⟩ := tr_find (P := P) (p := p) (k := 0) n (by rw [F p hp]; exact h)
  have h1 := (O c c0 c1).1
  have hz := tr_cnt_0 (p := p) O (p + 1) (by omega) (by omega)
  have hl : p + 1 < n := by omega
  have h2 := (O (p + 1) (by omega) hl).1
  have h3 := tr_open O (show p < p + 1 by omega) hl (by rw [hz]; exact h)
  exact ⟨hl, by omega, hz⟩
/-- nodes between p and its child c are full when c comes -/
theorem tr_mid {K P : Nat → Nat} {n p c m q : Nat} (O : tr_Ok K P n) (c0 : 0 < c) (c1 : c < n) (cp : P c = p) (hm : c < m) (hn : m < n) (h1 : p < q) (h2 : q < c) : P m ≠ q := by
  refine tr_shut O (by omega) hn ?_
  have h3 := (O c c0 c1).2.2 q (by omega) h2
  exact Nat.le_trans h3 (tr_cnt_le (by omega))
/-- the end of a child is the next child -/
theorem tr_next {K P : Nat → Nat} {n p c d : Nat} (O : tr_Ok K P n) (c0 : 0 < c) (c1 : c < n) (cp : P c = p) (d1 : d < n) (dp : P d = p) (hcd : c < d) (e : tr_cnt P p d = tr_cnt P p c + 1) : tr_e P n c = d := by
  have hp := (O c c0 c1).1
  refine tr_e_is ⟨hcd, by omega, fun m a b => ?_, fun _ => by omega⟩
  have hd := (O d (by omega) d1).2.1
  rw [dp] at hd
  have h1 : tr_cnt P p m ≤ tr_cnt P p d := tr_cnt_le (by omega)
  have h2 := tr_open (p := p) O (show p < m by omega) (by omega) (by omega)
  have h3 : P m ≠ p := fun z => by
    have h4 := tr_cnt_s (P := P) (show 0 < m by omega) z
    have h5 := tr_cnt_s (P := P) c0 cp
    have h6 := tr_cnt_le (P := P) (p := p) (show c + 1 ≤ m by omega)
    have h7 := tr_cnt_le (P := P) (p := p) (show m + 1 ≤ d by omega)
    omega
  rcases Nat.lt_or_ge (P m) c with q | q
  · exact absurd rfl (tr_mid (q := P m) O c0 c1 cp a (by omega) (by omega) q)
  · exact q
/-- the end of the last child is the end of the parent -/
theorem tr_last {K P : Nat → Nat} {n p c : Nat} (O : tr_Ok K P n) (c0 : 0 < c) (c1 : c < n) (cp : P c = p) (e : tr_cnt P p c + 1 = tr_ar (K p)) : tr_e P n p = tr_e P n c := by
  have hp := (O c c0 c1).1
  obtain ⟨a1, a2, a3, a4⟩ := tr_e_spec (P := P) (n := n) (p := p) (by omega)
  have hc : c < tr_e P n p := by
    rcases Nat.lt_or_ge c (tr_e P n p) with q | q
    · exact q
    · have h1 := a4 (by omega)
      rcases Nat.eq_or_lt_of_le q with z | z
      · rw [z, cp] at h1; omega
      · have h2 := tr_cnt_le (P := P) (p := p) (show tr_e P n p ≤ c by omega)
        have h3 := tr_open (p := p) O a1 (by omega) (by omega)
        omega
  refine (tr_e_is ⟨hc, a2, fun m x y => ?_, fun z => ?_⟩).symm
  · have h1 := a3 m (by omega) y
    have h2 : P m ≠ p := tr_shut O (by omega) (by omega) (by
      have h4 := tr_cnt_s (P := P) c0 cp
      have h6 := tr_cnt_le (P := P) (p := p) (show c + 1 ≤ m by omega)
      omega)
    rcases Nat.lt_or_ge (P m) c with q | q
    · exact absurd rfl (tr_mid (q := P m) O c0 c1 cp x (by omega) (by omega) q)
    · exact q
  · have := a4 z
    omega
/-- what a complete tree is, by kinds and ends alone -/
def tr_T (K e : Nat → Nat) (n : Nat) : Prop := ∀ p, p < n → p < e p ∧ e p ≤ n ∧ (tr_ar (K p) = 0 → e p = p + 1) ∧ (tr_ar (K p) = 1 → p + 1 < n ∧ e p = e (p + 1)) ∧ (tr_ar (K p) = 2 → p + 1 < n ∧ e (p + 1) < n ∧ e p = e (e (p + 1))) ∧ (tr_ar (K p) = 3 → p + 1 < n ∧ e (p + 1) < n ∧ e (e (p + 1)) < n ∧ e p = e (e (e (p + 1))))
/-- the children in order: p + 1, the end of that, the end of that -/
theorem tr_kid1 {K P : Nat → Nat} {n p : Nat} (O : tr_Ok K P n) (F : tr_Full K P n) (hp : p < n) (h : 2 ≤ tr_ar (K p)) : tr_e P n (p + 1) < n ∧ P (tr_e P n (p + 1)) = p ∧ tr_cnt P p (tr_e P n (p + 1)) = 1 := by
  obtain ⟨a1, a2, a3⟩ := tr_first O F hp (by omega)
  obtain ⟨c, c0, c1, c2, c3⟩ := tr_find (P := P) (p := p) (k := 1) n (by rw [F p hp]; omega)
  have hlt : p + 1 < c := by
    rcases Nat.lt_or_ge (p + 1) c with q | q
    · exact q
    · have := tr_cnt_le (P := P) (p := p) q
      omega
  have e := tr_next O (by omega) a1 a2 c1 c2 hlt (by omega)
  rw [e]
  exact ⟨c1, c2, c3⟩
theorem tr_kid2 {K P : Nat → Nat} {n p : Nat} (O : tr_Ok K P n) (F : tr_Full K P n) (hp : p < n) (h : 3 ≤ tr_ar (K p)) : tr_e P n (tr_e P n (p + 1)) < n ∧ P (tr_e P n (tr_e P n (p + 1))) = p ∧ tr_cnt P p (tr_e P n (tr_e P n (p + 1))) = 2 := by
  obtain ⟨a1, a2, a3⟩ := tr_kid1 O F hp (by omega)
  have hq := (O (tr_e P n (p + 1)) (by have := (tr_e_spec (P := P) (n := n) (p := p + 1) (tr_first O F hp (by omega)).1).1; omega) a1).1
  obtain ⟨c, c0, c1, c2, c3⟩ := tr_find (P := P) (p := p) (k := 2) n (by rw [F p hp]; omega)
  have hlt : tr_e P n (p + 1) < c := by
    rcases Nat.lt_or_ge (tr_e P n (p + 1)) c with q | q
    · exact q
    · have := tr_cnt_le (P := P) (p := p) q
      omega
  have e := tr_next O (by omega) a1 a2 c1 c2 hlt (by omega)
  rw [e]
  exact ⟨c1, c2, c3⟩
theorem tr_T_of {K P : Nat → Nat} {n : Nat} (O : tr_Ok K P n) (F : tr_Full K P n) : tr_T K (tr_e P n) n := by
  intro p hp
  obtain ⟨s1, s2, _, _⟩ := tr_e_spec (P := P) hp
  refine ⟨s1, s2, fun h => tr_e_leaf O hp h, fun h => ?_, fun h => ?_, fun h => ?_⟩
  · obtain ⟨a1, a2, a3⟩ := tr_first O F hp (by omega)
    exact ⟨a1, tr_last O (by omega) a1 a2 (by omega)⟩
  · obtain ⟨a1, a2, a3⟩ := tr_first O F hp (by omega)
    obtain ⟨b1, b2, b3⟩ := tr_kid1 O F hp (by omega)
    exact ⟨a1, b1, tr_last O (by have := (tr_e_spec (P := P) a1).1; omega) b1 b2 (by omega)⟩
  · obtain ⟨a1, a2, a3⟩ := tr_first O F hp (by omega)
    obtain ⟨b1, b2, b3⟩ := tr_kid1 O F hp (by omega)
    obtain ⟨d1, d2, d3⟩ := tr_kid2 O F hp (by omega)
    exact ⟨a1, b1, d1, tr_last O (by have := (tr_e_spec (P := P) b1).1; omega) d1 d2 (by omega)⟩
theorem tr_root {P : Nat → Nat} {n : Nat} (h : 0 < n) : tr_e P n 0 = n :=
  tr_e_is ⟨h, Nat.le_refl n, fun m _ _ => Nat.zero_le _, fun z => absurd z (Nat.lt_irrefl n)⟩
