section
/-! ===== rows pasted from the kit ===== -/
theorem pk_us {f : Nat → Int32} {k : Nat} {x : Int32} : upd f k x k = x := if_pos rfl
theorem pk_un {f : Nat → Int32} {k j : Nat} {x : Int32} (h : j ≠ k) : upd f k x j = f j := if_neg h
theorem pk_uLs {f : Nat → Int64} {k : Nat} {x : Int64} : vp_updL f k x k = x := if_pos rfl
theorem pk_uLn {f : Nat → Int64} {k j : Nat} {x : Int64} (h : j ≠ k) : vp_updL f k x j = f j := if_neg h
theorem pk_sub {a b : Nat} (h : b ≤ a) : nI a - nI b = nI (a - b) := by
  obtain ⟨c, rfl⟩ : ∃ c, a = c + b := ⟨a - b, by omega⟩
  rw [← nI_add, Int32.add_sub_cancel, Nat.add_sub_cancel]
theorem pk_m1 (n : Nat) : nI (n + 1) + (-1) = nI n := by
  rw [← nI_1, Int32.add_assoc, show (1 : Int32) + (-1) = 0 from rfl, Int32.add_zero]
theorem pk_mul (a b : Nat) : nI a * nI b = nI (a * b) := (Int32.ofNat_mul a b).symm
theorem pk_div {a d : Nat} (ha : a < 2 ^ 31) (h0 : 0 < d) (hd : d < 2 ^ 31) : nI a / nI d = nI (a / d) := by
  apply Int32.toInt_inj.mp
  rw [lg_idiv_nonneg (by rw [nI_toInt ha]; omega) (by rw [nI_toInt hd]; omega), nI_toInt ha, nI_toInt hd, nI_toInt (Nat.lt_of_le_of_lt (Nat.div_le_self a d) ha)]
  first | rfl | exact (Int.natCast_ediv _ _).symm
theorem pk_rem {a d : Nat} (ha : a < 2 ^ 31) (h0 : 0 < d) (hd : d < 2 ^ 31) : nI a - nI a / nI d * nI d = nI (a % d) := by
  rw [pk_div ha h0 hd, pk_mul, pk_sub (Nat.div_mul_le_self a d)]
  exact congrArg nI (by have := Nat.div_add_mod' a d; omega)
theorem pk_ix (x : Int32) {n : Nat} (hn : n < 2 ^ 31) : x < 0 ∨ nI n ≤ x ∨ ∃ j : Nat, j < n ∧ x = nI j := by
  by_cases h : x < 0
  · exact Or.inl h
  · obtain ⟨j, hj, rfl⟩ := nI_of h
    by_cases h2 : j < n
    · exact Or.inr (Or.inr ⟨j, h2, rfl⟩)
    · exact Or.inr (Or.inl (nI_le (by omega) hj))
theorem pk_le {x y : Int32} {A B : Prop} (a b : Nat) (f : a ≤ b → A) (g : b < a → B) (hx : x = nI a := by rfl) (hy : y = nI b := by rfl) (ha : a < 2 ^ 31 := by omega) (hb : b < 2 ^ 31 := by omega) : (x ≤ y → A) ∧ (¬ x ≤ y → B) := by
  subst hx hy
  rw [nI_leI ha hb]
  exact ⟨f, fun z => g (by omega)⟩
theorem pk_lt {x y : Int32} {A B : Prop} (a b : Nat) (f : a < b → A) (g : b ≤ a → B) (hx : x = nI a := by rfl) (hy : y = nI b := by rfl) (ha : a < 2 ^ 31 := by omega) (hb : b < 2 ^ 31 := by omega) : (x < y → A) ∧ (¬ x < y → B) := by
  subst hx hy
  rw [nI_ltI ha hb]
  exact ⟨f, fun z => g (by omega)⟩
theorem pk_eq {x y : Int32} {A B : Prop} (a b : Nat) (f : a = b → A) (g : a ≠ b → B) (hx : x = nI a := by rfl) (hy : y = nI b := by rfl) (ha : a < 2 ^ 31 := by omega) (hb : b < 2 ^ 31 := by omega) : (x = y → A) ∧ (¬ x = y → B) := by
  subst hx hy
  rw [nI_eq ha hb]
  exact ⟨f, g⟩
theorem pk_in {x : Int32} (n N : Nat) (h : n < N) (hx : x = nI n := by rfl) (hN : N < 2 ^ 31 := by omega) : vp_in x N := by
  subst hx
  exact vp_in_nI h hN
theorem pk_cl {x : Int32} (n : Nat) (hx : x = nI n := by rfl) (h : n < 2 ^ 31 := by omega) : x.toNatClampNeg = n := by
  subst hx
  exact nI_clamp h
theorem pk_tn {n : Nat} (h : n < 2 ^ 32) : (nI n).toBitVec.toNat = n := Nat.mod_eq_of_lt h
theorem pk_shl (a s : Int32) (k : Nat) (hs : (s.toBitVec.smod 32).toNat = k) : (a <<< s).toBitVec.toNat = a.toBitVec.toNat * 2 ^ k % 2 ^ 32 := by
  show (a.toBitVec <<< (s.toBitVec.smod 32).toNat).toNat = _
  rw [hs, BitVec.toNat_shiftLeft, Nat.shiftLeft_eq]
theorem pk_shlN {n : Nat} (s : Int32) (k : Nat) (hs : (s.toBitVec.smod 32).toNat = k) (h : n * 2 ^ k < 2 ^ 32) : nI n <<< s = nI (n * 2 ^ k) := by
  apply Int32.toBitVec_inj.mp
  apply BitVec.eq_of_toNat_eq
  have hn : n < 2 ^ 32 := Nat.lt_of_le_of_lt (Nat.le_mul_of_pos_right n (Nat.two_pow_pos k)) h
  rw [pk_shl _ _ k hs, pk_tn hn, pk_tn h, Nat.mod_eq_of_lt h]
theorem pk_shr (a s : Int32) (k : Nat) (hs : (s.toBitVec.smod 32).toNat = k) : (a >>> s).toInt = a.toInt >>> k := by
  show (a.toBitVec.sshiftRight (s.toBitVec.smod 32).toNat).toInt = _
  rw [hs, BitVec.toInt_sshiftRight]
  rfl
theorem pk_shrN {n : Nat} (h : n < 2 ^ 31) (s : Int32) (k : Nat) (hs : (s.toBitVec.smod 32).toNat = k) : nI n >>> s = nI (n / 2 ^ k) := by
  apply Int32.toInt_inj.mp
  have h2 : n / 2 ^ k ≤ n := Nat.div_le_self _ _
  rw [pk_shr _ _ k hs, nI_toInt h, nI_toInt (by omega), Int.shiftRight_eq_div_pow]
  rfl
theorem pk_loop {σ : Type} (W : Nat → Nat → σ → Prop) (I : Nat → σ → Prop) (e i0 : Nat) (s : σ) (hi : i0 ≤ e) (h0 : I i0 s) (hx : ∀ n s, I e s → W (n + 1) e s)
    (hs : ∀ n i s, i < e → I i s → (∀ s', I (i + 1) s' → W n (i + 1) s') → W (n + 1) i s) : ∃ n, W n i0 s :=
  ⟨e + 1, loop_i W I e hx hs (e + 1) i0 s hi (by omega) h0⟩
theorem pk_loopD {σ : Type} (W : Nat → Nat → σ → Prop) (I : Nat → σ → Prop) (hx : ∀ n s, I 0 s → W (n + 1) 0 s)
    (hs : ∀ n i s, I (i + 1) s → (∀ s', I i s' → W n i s') → W (n + 1) (i + 1) s) : ∀ (e : Nat) (s : σ), I e s → W (e + 1) e s := by
  intro e
  induction e with
  | zero => exact fun s h => hx 0 s h
  | succ e ih => exact fun s h => hs (e + 1) e s h (fun s' h' => ih s' h')
end
section
/-! ===== the tree by its kinds and parents: counts of children, ends of subtrees ===== -/
def tr_ar (k : Nat) : Nat := if k = 2 then 1 else if k = 6 then 3 else if 3 ≤ k then 2 else 0
def tr_cnt (P : Nat → Nat) (p : Nat) : Nat → Nat
  | 0 => 0
  | m + 1 => tr_cnt P p m + (if 0 < m ∧ P m = p then 1 else 0)
/-- the parent of m is the greatest node that is open before m -/
def tr_Ok (K P : Nat → Nat) (n : Nat) : Prop :=
  ∀ m, 0 < m → m < n → P m < m ∧ tr_cnt P (P m) m < tr_ar (K (P m)) ∧ ∀ q, P m < q → q < m → tr_ar (K q) ≤ tr_cnt P q m
def tr_Full (K P : Nat → Nat) (n : Nat) : Prop := ∀ p, p < n → tr_cnt P p n = tr_ar (K p)
theorem tr_cnt_s {P : Nat → Nat} {p m : Nat} (h0 : 0 < m) (h : P m = p) : tr_cnt P p (m + 1) = tr_cnt P p m + 1 := by
  show tr_cnt P p m + (if 0 < m ∧ P m = p then 1 else 0) = _
  rw [if_pos ⟨h0, h⟩]
theorem tr_cnt_n {P : Nat → Nat} {p m : Nat} (h : ¬ (0 < m ∧ P m = p)) : tr_cnt P p (m + 1) = tr_cnt P p m := by
  show tr_cnt P p m + (if 0 < m ∧ P m = p then 1 else 0) = _
  rw [if_neg h, Nat.add_zero]
theorem tr_cnt_mono (P : Nat → Nat) (p m : Nat) : ∀ d, tr_cnt P p m ≤ tr_cnt P p (m + d) := by
  intro d
  induction d with
  | zero => exact Nat.le_refl _
  | succ d ih =>
    show tr_cnt P p m ≤ tr_cnt P p (m + d) + (if 0 < m + d ∧ P (m + d) = p then 1 else 0)
    exact Nat.le_trans ih (Nat.le_add_right _ _)
theorem tr_cnt_le {P : Nat → Nat} {p a b : Nat} (h : a ≤ b) : tr_cnt P p a ≤ tr_cnt P p b := by
  have := tr_cnt_mono P p a (b - a)
  rwa [Nat.add_sub_cancel' h] at this
/-- no node up to p has parent p -/
theorem tr_cnt_0 {K P : Nat → Nat} {n p : Nat} (O : tr_Ok K P n) : ∀ m, m ≤ n → m ≤ p + 1 → tr_cnt P p m = 0 := by
  intro m
  induction m with
  | zero => intro _ _; rfl
  | succ m ih =>
    intro h1 h2
    rw [tr_cnt_n (fun z => by have := (O m z.1 (by omega)).1; omega)]
    exact ih (by omega) (by omega)
theorem tr_cnt_ar {K P : Nat → Nat} {n p : Nat} (O : tr_Ok K P n) : ∀ m, m ≤ n → tr_cnt P p m ≤ tr_ar (K p) := by
  intro m
  induction m with
  | zero => intro _; exact Nat.zero_le _
  | succ m ih =>
    intro h
    have hi := ih (by omega)
    by_cases z : 0 < m ∧ P m = p
    · rw [tr_cnt_s z.1 z.2]
      have h2 := (O m z.1 (by omega)).2.1
      rw [z.2] at h2
      omega
    · rw [tr_cnt_n z]
      exact hi
/-- two nodes with one parent and one place are one -/
theorem tr_uniq {P : Nat → Nat} {p a b : Nat} (ha0 : 0 < a) (hb0 : 0 < b) (ha : P a = p) (hb : P b = p) (e : tr_cnt P p a = tr_cnt P p b) : a = b := by
  rcases Nat.lt_trichotomy a b with h | h | h
  · have h1 := tr_cnt_s ha0 ha
    have h2 := tr_cnt_le (P := P) (p := p) (show a + 1 ≤ b by omega)
    omega
  · exact h
  · have h1 := tr_cnt_s hb0 hb
    have h2 := tr_cnt_le (P := P) (p := p) (show b + 1 ≤ a by omega)
    omega
theorem tr_find {P : Nat → Nat} {p k : Nat} : ∀ n, k < tr_cnt P p n → ∃ c, 0 < c ∧ c < n ∧ P c = p ∧ tr_cnt P p c = k := by
  intro n
  induction n with
  | zero => intro h; exact absurd h (Nat.not_lt_zero k)
  | succ n ih =>
    intro h
    by_cases z : 0 < n ∧ P n = p
    · rw [tr_cnt_s z.1 z.2] at h
      by_cases e : k = tr_cnt P p n
      · exact ⟨n, z.1, by omega, z.2, e.symm⟩
      · obtain ⟨c, h1, h2, h3, h4⟩ := ih (by omega)
        exact ⟨c, h1, by omega, h3, h4⟩
    · rw [tr_cnt_n z] at h
      obtain ⟨c, h1, h2, h3, h4⟩ := ih h
      exact ⟨c, h1, by omega, h3, h4⟩
/-! the end of the subtree of p: the first m behind p whose parent is before p, or n -/
def tr_es (P : Nat → Nat) (n p : Nat) : Nat → Nat → Nat
  | 0, m => m
  | d + 1, m => if m < n ∧ p ≤ P m then tr_es P n p d (m + 1) else m
def tr_e (P : Nat → Nat) (n p : Nat) : Nat := tr_es P n p n (p + 1)
def tr_End (P : Nat → Nat) (n p x : Nat) : Prop := p < x ∧ x ≤ n ∧ (∀ m, p < m → m < x → p ≤ P m) ∧ (x < n → P x < p)
theorem tr_es_spec (P : Nat → Nat) (n p : Nat) : ∀ d m, p < m → m ≤ n → n ≤ m + d → (∀ j, p < j → j < m → p ≤ P j) → tr_End P n p (tr_es P n p d m) := by
  intro d
  induction d with
  | zero =>
    intro m h1 h2 h3 h4
    exact ⟨h1, h2, h4, fun z => absurd (show m < n from z) (by omega)⟩
  | succ d ih =>
    intro m h1 h2 h3 h4
    by_cases z : m < n ∧ p ≤ P m
    · rw [tr_es, if_pos z]
      refine ih (m + 1) (by omega) (by omega) (by omega) (fun j a b => ?_)
      by_cases e : j = m
      · rw [e]; exact z.2
      · exact h4 j a (by omega)
    · rw [tr_es, if_neg z]
      exact ⟨h1, h2, h4, fun y => by
        rcases Nat.lt_or_ge (P m) p with q | q
        · exact q
        · exact absurd ⟨y, q⟩ z⟩
theorem tr_e_spec {P : Nat → Nat} {n p : Nat} (h : p < n) : tr_End P n p (tr_e P n p) :=
  tr_es_spec P n p n (p + 1) (by omega) (by omega) (by omega) (fun j a b => by omega)
theorem tr_End_uniq {P : Nat → Nat} {n p x y : Nat} (hx : tr_End P n p x) (hy : tr_End P n p y) : x = y := by
  obtain ⟨a1, a2, a3, a4⟩ := hx
  obtain ⟨b1, b2, b3, b4⟩ := hy
  rcases Nat.lt_trichotomy x y with h | h | h
  · have := a4 (by omega)
    have := b3 x a1 h
    omega
  · exact h
  · have := b4 (by omega)
    have := a3 y b1 h
    omega
theorem tr_e_is {P : Nat → Nat} {n p x : Nat} (h : tr_End P n p x) : tr_e P n p = x :=
  tr_End_uniq (tr_e_spec (by have := h.1; have := h.2.1; omega)) h
/-- while p has an open place, parents lie at p or behind it -/
theorem tr_open {K P : Nat → Nat} {n p m : Nat} (O : tr_Ok K P n) (h1 : p < m) (h2 : m < n) (h : tr_cnt P p m < tr_ar (K p)) : p ≤ P m := by
  rcases Nat.lt_or_ge (P m) p with q | q
  · have := (O m (by omega) h2).2.2 p q h1
    omega
  · exact q
/-- a full node gets no child -/
theorem tr_shut {K P : Nat → Nat} {n p m : Nat} (O : tr_Ok K P n) (h0 : 0 < m) (h2 : m < n) (h : tr_ar (K p) ≤ tr_cnt P p m) : P m ≠ p := by
  intro e
  have := (O m h0 h2).2.1
  rw [e] at this
  omega
theorem tr_e_leaf {K P : Nat → Nat} {n p : Nat} (O : tr_Ok K P n) (hp : p < n) (h : tr_ar (K p) = 0) : tr_e P n p = p + 1 := by
  refine tr_e_is ⟨by omega, by omega, fun m a b => by omega, fun z => ?_⟩
  have h1 := (O (p + 1) (by omega) z).1
  have h2 := tr_shut (p := p) O (by omega) z (by omega)
  omega
theorem tr_first {K P : Nat → Nat} {n p : Nat} (O : tr_Ok K P n) (F : tr_Full K P n) (hp : p < n) (h : 0 < tr_ar (K p)) : p + 1 < n ∧ P (p + 1) = p ∧ tr_cnt P p (p + 1) = 0 := by
  obtain ⟨c, c0, c1, c2, c3⟩ := tr_find (P := P) (p := p) (k := 0) n (by rw [F p hp]; exact h)
  have h1 := (O c c0 c1).1
  have hz := tr_cnt_0 (p := p) O (p + 1) (by omega) (by omega)
  have hl : p + 1 < n := by omega
  have h2 := (O (p + 1) (by omega) hl).1
  have h3 := tr_open O (show p < p + 1 by omega) hl (by rw [hz]; exact h)
  exact ⟨hl, by omega, hz⟩
/-- nodes between p and its child c are full when c comes -/
theorem tr_mid {K P : Nat → Nat} {n p c m q : Nat} (O : tr_Ok K P n) (c0 : 0 < c) (c1 : c < n) (cp : P c = p) (hm : c < m) (hn : m < n) (h1 : p < q) (h2 : q < c) : P m ≠ q := by
  refine tr_shut O (by omega) hn ?_
  have h3 := (O c c0 c1).2.2 q (by omega) h2
  exact Nat.le_trans h3 (tr_cnt_le (by omega))
/-- the end of a child is the next child -/
theorem tr_next {K P : Nat → Nat} {n p c d : Nat} (O : tr_Ok K P n) (c0 : 0 < c) (c1 : c < n) (cp : P c = p) (d1 : d < n) (dp : P d = p) (hcd : c < d) (e : tr_cnt P p d = tr_cnt P p c + 1) : tr_e P n c = d := by
  have hp := (O c c0 c1).1
  refine tr_e_is ⟨hcd, by omega, fun m a b => ?_, fun _ => by omega⟩
  have hd := (O d (by omega) d1).2.1
  rw [dp] at hd
  have h1 : tr_cnt P p m ≤ tr_cnt P p d := tr_cnt_le (by omega)
  have h2 := tr_open (p := p) O (show p < m by omega) (by omega) (by omega)
  have h3 : P m ≠ p := fun z => by
    have h4 := tr_cnt_s (P := P) (show 0 < m by omega) z
    have h5 := tr_cnt_s (P := P) c0 cp
    have h6 := tr_cnt_le (P := P) (p := p) (show c + 1 ≤ m by omega)
    have h7 := tr_cnt_le (P := P) (p := p) (show m + 1 ≤ d by omega)
    omega
  rcases Nat.lt_or_ge (P m) c with q | q
  · exact absurd rfl (tr_mid (q := P m) O c0 c1 cp a (by omega) (by omega) q)
  · exact q
/-- the end of the last child is the end of the parent -/
theorem tr_last {K P : Nat → Nat} {n p c : Nat} (O : tr_Ok K P n) (c0 : 0 < c) (c1 : c < n) (cp : P c = p) (e : tr_cnt P p c + 1 = tr_ar (K p)) : tr_e P n p = tr_e P n c := by
  have hp := (O c c0 c1).1
  obtain ⟨a1, a2, a3, a4⟩ := tr_e_spec (P := P) (n := n) (p := p) (by omega)
  have hc : c < tr_e P n p := by
    rcases Nat.lt_or_ge c (tr_e P n p) with q | q
    · exact q
    · have h1 := a4 (by omega)
      rcases Nat.eq_or_lt_of_le q with z | z
      · rw [z, cp] at h1; omega
      · have h2 := tr_cnt_le (P := P) (p := p) (show tr_e P n p ≤ c by omega)
        have h3 := tr_open (p := p) O a1 (by omega) (by omega)
        omega
  refine (tr_e_is ⟨hc, a2, fun m x y => ?_, fun z => ?_⟩).symm
  · have h1 := a3 m (by omega) y
    have h2 : P m ≠ p := tr_shut O (by omega) (by omega) (by
      have h4 := tr_cnt_s (P := P) c0 cp
      have h6 := tr_cnt_le (P := P) (p := p) (show c + 1 ≤ m by omega)
      omega)
    rcases Nat.lt_or_ge (P m) c with q | q
    · exact absurd rfl (tr_mid (q := P m) O c0 c1 cp x (by omega) (by omega) q)
    · exact q
  · have := a4 z
    omega
/-- what a complete tree is, by kinds and ends alone -/
def tr_T (K e : Nat → Nat) (n : Nat) : Prop := ∀ p, p < n → p < e p ∧ e p ≤ n ∧ (tr_ar (K p) = 0 → e p = p + 1) ∧ (tr_ar (K p) = 1 → p + 1 < n ∧ e p = e (p + 1)) ∧ (tr_ar (K p) = 2 → p + 1 < n ∧ e (p + 1) < n ∧ e p = e (e (p + 1))) ∧ (tr_ar (K p) = 3 → p + 1 < n ∧ e (p + 1) < n ∧ e (e (p + 1)) < n ∧ e p = e (e (e (p + 1))))
/-- the children in order: p + 1, the end of that, the end of that -/
theorem tr_kid1 {K P : Nat → Nat} {n p : Nat} (O : tr_Ok K P n) (F : tr_Full K P n) (hp : p < n) (h : 2 ≤ tr_ar (K p)) : tr_e P n (p + 1) < n ∧ P (tr_e P n (p + 1)) = p ∧ tr_cnt P p (tr_e P n (p + 1)) = 1 := by
  obtain ⟨a1, a2, a3⟩ := tr_first O F hp (by omega)
  obtain ⟨c, c0, c1, c2, c3⟩ := tr_find (P := P) (p := p) (k := 1) n (by rw [F p hp]; omega)
  have hlt : p + 1 < c := by
    rcases Nat.lt_or_ge (p + 1) c with q | q
    · exact q
    · have := tr_cnt_le (P := P) (p := p) q
      omega
  have e := tr_next O (by omega) a1 a2 c1 c2 hlt (by omega)
  rw [e]
  exact ⟨c1, c2, c3⟩
theorem tr_kid2 {K P : Nat → Nat} {n p : Nat} (O : tr_Ok K P n) (F : tr_Full K P n) (hp : p < n) (h : 3 ≤ tr_ar (K p)) : tr_e P n (tr_e P n (p + 1)) < n ∧ P (tr_e P n (tr_e P n (p + 1))) = p ∧ tr_cnt P p (tr_e P n (tr_e P n (p + 1))) = 2 := by
  obtain ⟨a1, a2, a3⟩ := tr_kid1 O F hp (by omega)
  have hq := (O (tr_e P n (p + 1)) (by have := (tr_e_spec (P := P) (n := n) (p := p + 1) (tr_first O F hp (by omega)).1).1; omega) a1).1
  obtain ⟨c, c0, c1, c2, c3⟩ := tr_find (P := P) (p := p) (k := 2) n (by rw [F p hp]; omega)
  have hlt : tr_e P n (p + 1) < c := by
    rcases Nat.lt_or_ge (tr_e P n (p + 1)) c with q | q
    · exact q
    · have := tr_cnt_le (P := P) (p := p) q
      omega
  have e := tr_next O (by omega) a1 a2 c1 c2 hlt (by omega)
  rw [e]
  exact ⟨c1, c2, c3⟩
theorem tr_T_of {K P : Nat → Nat} {n : Nat} (O : tr_Ok K P n) (F : tr_Full K P n) : tr_T K (tr_e P n) n := by
  intro p hp
  obtain ⟨s1, s2, _, _⟩ := tr_e_spec (P := P) hp
  refine ⟨s1, s2, fun h => tr_e_leaf O hp h, fun h => ?_, fun h => ?_, fun h => ?_⟩
  · obtain ⟨a1, a2, a3⟩ := tr_first O F hp (by omega)
    exact ⟨a1, tr_last O (by omega) a1 a2 (by omega)⟩
  · obtain ⟨a1, a2, a3⟩ := tr_first O F hp (by omega)
    obtain ⟨b1, b2, b3⟩ := tr_kid1 O F hp (by omega)
    exact ⟨a1, b1, tr_last O (by have := (tr_e_spec (P := P) a1).1; omega) b1 b2 (by omega)⟩
  · obtain ⟨a1, a2, a3⟩ := tr_first O F hp (by omega)
    obtain ⟨b1, b2, b3⟩ := tr_kid1 O F hp (by omega)
    obtain ⟨d1, d2, d3⟩ := tr_kid2 O F hp (by omega)
    exact ⟨a1, b1, d1, tr_last O (by have := (tr_e_spec (P := P) b1).1; omega) d1 d2 (by omega)⟩
theorem tr_root {P : Nat → Nat} {n : Nat} (h : 0 < n) : tr_e P n 0 = n :=
  tr_e_is ⟨h, Nat.le_refl n, fun m _ _ => Nat.zero_le _, fun z => absurd z (Nat.lt_irrefl n)⟩
end
section
/-! ===== sums, the number of holes, a new node ===== -/
def tr_sum (f : Nat → Nat) : Nat → Nat
  | 0 => 0
  | n + 1 => tr_sum f n + f n
theorem tr_sum_c {f g : Nat → Nat} : ∀ n, (∀ i, i < n → f i = g i) → tr_sum f n = tr_sum g n := by
  intro n
  induction n with
  | zero => intro _; rfl
  | succ n ih =>
    intro h
    show tr_sum f n + f n = tr_sum g n + g n
    rw [ih (fun i hi => h i (by omega)), h n (by omega)]
theorem tr_sum_le {f g : Nat → Nat} : ∀ n, (∀ i, i < n → f i ≤ g i) → tr_sum f n ≤ tr_sum g n := by
  intro n
  induction n with
  | zero => intro _; exact Nat.le_refl _
  | succ n ih =>
    intro h
    have h1 := ih (fun i hi => h i (by omega))
    have h2 := h n (by omega)
    show tr_sum f n + f n ≤ tr_sum g n + g n
    omega
theorem tr_sum_same {f g : Nat → Nat} : ∀ n, (∀ i, i < n → f i ≤ g i) → tr_sum f n = tr_sum g n → ∀ i, i < n → f i = g i := by
  intro n
  induction n with
  | zero => intro _ _ i hi; exact absurd hi (Nat.not_lt_zero i)
  | succ n ih =>
    intro h e i hi
    have h1 := tr_sum_le n (fun i hi => h i (Nat.lt_succ_of_lt hi))
    have h2 := h n (by omega)
    have e' : tr_sum f n + f n = tr_sum g n + g n := e
    by_cases z : i = n
    · subst z; omega
    · exact ih (fun i hi => h i (by omega)) (by omega) i (by omega)
theorem tr_sum_add (f g : Nat → Nat) : ∀ n, tr_sum (fun i => f i + g i) n = tr_sum f n + tr_sum g n := by
  intro n
  induction n with
  | zero => rfl
  | succ n ih =>
    show tr_sum (fun i => f i + g i) n + (f n + g n) = (tr_sum f n + f n) + (tr_sum g n + g n)
    omega
theorem tr_sum_0 : ∀ n, tr_sum (fun _ => 0) n = 0 := by
  intro n
  induction n with
  | zero => rfl
  | succ n ih => exact ih
theorem tr_sum_one (x : Nat) : ∀ n, tr_sum (fun p => if x = p then 1 else 0) n = if x < n then 1 else 0 := by
  intro n
  induction n with
  | zero => rfl
  | succ n ih =>
    show tr_sum (fun p => if x = p then 1 else 0) n + (if x = n then 1 else 0) = _
    rw [ih]
    by_cases h1 : x < n
    · rw [if_pos h1, if_neg (by omega), if_pos (by omega)]
    · by_cases h2 : x = n
      · rw [if_neg h1, if_pos h2, if_pos (by omega)]
      · rw [if_neg h1, if_neg h2, if_neg (by omega)]
/-- every node but the root is the child of one node -/
theorem tr_edges {K P : Nat → Nat} {n : Nat} (O : tr_Ok K P n) : ∀ m, 0 < m → m ≤ n → tr_sum (fun p => tr_cnt P p m) n = m - 1 := by
  intro m
  induction m with
  | zero => intro h; omega
  | succ m ih =>
    intro _ hm
    by_cases z : 0 < m
    · have h1 := ih z (by omega)
      have h2 := (O m z (by omega)).1
      have e : tr_sum (fun p => tr_cnt P p (m + 1)) n = tr_sum (fun p => tr_cnt P p m + (if P m = p then 1 else 0)) n := by
        refine tr_sum_c n (fun p _ => ?_)
        by_cases y : P m = p
        · rw [tr_cnt_s z y, if_pos y]
        · rw [tr_cnt_n (fun w => y w.2), if_neg y, Nat.add_zero]
      rw [e, tr_sum_add, h1, tr_sum_one, if_pos (by omega)]
      omega
    · have e : m = 0 := by omega
      subst e
      have e : tr_sum (fun p => tr_cnt P p (0 + 1)) n = tr_sum (fun _ => 0) n := by
        refine tr_sum_c n (fun p _ => ?_)
        rw [tr_cnt_n (fun w => absurd w.1 (Nat.lt_irrefl 0))]
        rfl
      rw [e, tr_sum_0]
/-- h holes: h + n = 1 + the sum of the arities -/
def tr_H (K : Nat → Nat) (n h : Nat) : Prop := h + n = 1 + tr_sum (fun i => tr_ar (K i)) n
theorem tr_full_of {K P : Nat → Nat} {n : Nat} (O : tr_Ok K P n) (H : tr_H K n 0) : tr_Full K P n := by
  have H' : 0 + n = 1 + tr_sum (fun i => tr_ar (K i)) n := H
  have h := tr_edges O n (by omega) (Nat.le_refl n)
  exact tr_sum_same n (fun p _ => tr_cnt_ar O n (Nat.le_refl n)) (by omega)
theorem tr_open_ex {K P : Nat → Nat} {n h : Nat} (O : tr_Ok K P n) (H : tr_H K n h) (hn : 0 < n) (hh : 0 < h) : ∃ p, p < n ∧ tr_cnt P p n < tr_ar (K p) := by
  have H' : h + n = 1 + tr_sum (fun i => tr_ar (K i)) n := H
  have e := tr_edges O n hn (Nat.le_refl n)
  by_cases z : ∃ p, p < n ∧ tr_cnt P p n < tr_ar (K p)
  · exact z
  · have := tr_sum_le (f := fun i => tr_ar (K i)) (g := fun p => tr_cnt P p n) n (fun p hp => by
      rcases Nat.lt_or_ge (tr_cnt P p n) (tr_ar (K p)) with q | q
      · exact absurd ⟨p, hp, q⟩ z
      · exact q)
    omega
/-! a new node n of kind k under p -/
def tr_put (f : Nat → Nat) (n x : Nat) : Nat → Nat := fun j => if j = n then x else f j
theorem tr_put_s (f : Nat → Nat) (n x : Nat) : tr_put f n x n = x := if_pos rfl
theorem tr_put_n (f : Nat → Nat) {n j : Nat} (x : Nat) (h : j ≠ n) : tr_put f n x j = f j := if_neg h
theorem tr_cnt_put (P : Nat → Nat) (n x p : Nat) : ∀ m, m ≤ n → tr_cnt (tr_put P n x) p m = tr_cnt P p m := by
  intro m
  induction m with
  | zero => intro _; rfl
  | succ m ih =>
    intro h
    show tr_cnt (tr_put P n x) p m + (if 0 < m ∧ tr_put P n x m = p then 1 else 0) = tr_cnt P p m + (if 0 < m ∧ P m = p then 1 else 0)
    rw [ih (by omega), tr_put_n P x (show m ≠ n by omega)]
theorem tr_Ok_put {K P : Nat → Nat} {n k p : Nat} (O : tr_Ok K P n) (hp : 0 < n → p < n ∧ tr_cnt P p n < tr_ar (K p) ∧ ∀ q, p < q → q < n → tr_ar (K q) ≤ tr_cnt P q n) : tr_Ok (tr_put K n k) (tr_put P n p) (n + 1) := by
  intro m h0 h1
  by_cases e : m = n
  · subst e
    obtain ⟨a1, a2, a3⟩ := hp h0
    rw [tr_put_s, tr_cnt_put P m p p m (Nat.le_refl m), tr_put_n K k (show p ≠ m by omega)]
    refine ⟨a1, a2, fun q x y => ?_⟩
    rw [tr_put_n K k (show q ≠ m by omega), tr_cnt_put P m p q m (Nat.le_refl m)]
    exact a3 q x y
  · have hm : m < n := by omega
    obtain ⟨a1, a2, a3⟩ := O m h0 hm
    rw [tr_put_n P p e, tr_cnt_put P n p (P m) m (by omega), tr_put_n K k (show P m ≠ n by omega)]
    refine ⟨a1, a2, fun q x y => ?_⟩
    rw [tr_put_n K k (show q ≠ n by omega), tr_cnt_put P n p q m (by omega)]
    exact a3 q x y
theorem tr_H_put {K : Nat → Nat} {n h k : Nat} (H : tr_H K n h) (hh : 0 < h) : tr_H (tr_put K n k) (n + 1) (h + tr_ar k - 1) := by
  have H' : h + n = 1 + tr_sum (fun i => tr_ar (K i)) n := H
  show h + tr_ar k - 1 + (n + 1) = 1 + (tr_sum (fun i => tr_ar (tr_put K n k i)) n + tr_ar (tr_put K n k n))
  rw [tr_put_s, tr_sum_c (f := fun i => tr_ar (tr_put K n k i)) (g := fun i => tr_ar (K i)) n (fun i hi => by
    show tr_ar (tr_put K n k i) = tr_ar (K i)
    rw [tr_put_n K k (show i ≠ n by omega)])]
  omega
/-! ===== lambda numbers ===== -/
def tr_lc (K : Nat → Nat) : Nat → Nat
  | 0 => 0
  | m + 1 => tr_lc K m + (if K m = 2 then 1 else 0)
theorem tr_lc_s {K : Nat → Nat} {m : Nat} (h : K m = 2) : tr_lc K (m + 1) = tr_lc K m + 1 := by
  show tr_lc K m + (if K m = 2 then 1 else 0) = _
  rw [if_pos h]
theorem tr_lc_n {K : Nat → Nat} {m : Nat} (h : K m ≠ 2) : tr_lc K (m + 1) = tr_lc K m := by
  show tr_lc K m + (if K m = 2 then 1 else 0) = _
  rw [if_neg h, Nat.add_zero]
theorem tr_lc_mono (K : Nat → Nat) (m : Nat) : ∀ d, tr_lc K m ≤ tr_lc K (m + d) := by
  intro d
  induction d with
  | zero => exact Nat.le_refl _
  | succ d ih =>
    show tr_lc K m ≤ tr_lc K (m + d) + (if K (m + d) = 2 then 1 else 0)
    exact Nat.le_trans ih (Nat.le_add_right _ _)
theorem tr_lc_le {K : Nat → Nat} {a b : Nat} (h : a ≤ b) : tr_lc K a ≤ tr_lc K b := by
  have := tr_lc_mono K a (b - a)
  rwa [Nat.add_sub_cancel' h] at this
theorem tr_lc_lt {K : Nat → Nat} {a b : Nat} (h : a < b) (ha : K a = 2) : tr_lc K a < tr_lc K b := by
  have h1 := tr_lc_s ha
  have h2 := tr_lc_le (K := K) (show a + 1 ≤ b by omega)
  omega
theorem tr_lc_inj {K : Nat → Nat} {a b : Nat} (ha : K a = 2) (hb : K b = 2) (e : tr_lc K a = tr_lc K b) : a = b := by
  rcases Nat.lt_trichotomy a b with h | h | h
  · have := tr_lc_lt h ha; omega
  · exact h
  · have := tr_lc_lt h hb; omega
theorem tr_lc_find {K : Nat → Nat} {l : Nat} : ∀ n, l < tr_lc K n → ∃ m, m < n ∧ K m = 2 ∧ tr_lc K m = l := by
  intro n
  induction n with
  | zero => intro h; exact absurd h (Nat.not_lt_zero l)
  | succ n ih =>
    intro h
    by_cases z : K n = 2
    · rw [tr_lc_s z] at h
      by_cases e : l = tr_lc K n
      · exact ⟨n, by omega, z, e.symm⟩
      · obtain ⟨m, h1, h2, h3⟩ := ih (by omega)
        exact ⟨m, by omega, h2, h3⟩
    · rw [tr_lc_n z] at h
      obtain ⟨m, h1, h2, h3⟩ := ih h
      exact ⟨m, by omega, h2, h3⟩
theorem tr_lc_put (K : Nat → Nat) (n k : Nat) : ∀ m, m ≤ n → tr_lc (tr_put K n k) m = tr_lc K m := by
  intro m
  induction m with
  | zero => intro _; rfl
  | succ m ih =>
    intro h
    show tr_lc (tr_put K n k) m + (if tr_put K n k m = 2 then 1 else 0) = tr_lc K m + (if K m = 2 then 1 else 0)
    rw [ih (by omega), tr_put_n K k (show m ≠ n by omega)]
end
section
/-! ===== nests and scopes: N m LAMs enclose m; sc m l: the LAM of lambda l encloses m ===== -/
def tr_bc (f : Nat → Bool) : Nat → Nat
  | 0 => 0
  | j + 1 => tr_bc f j + (if f j = true then 1 else 0)
def tr_N (K P N : Nat → Nat) (n : Nat) : Prop := ∀ m, m < n → (m = 0 → N m = 0) ∧ (0 < m → N m = N (P m) + (if K (P m) = 2 then 1 else 0))
def tr_S (K P : Nat → Nat) (sc : Nat → Nat → Bool) (n : Nat) : Prop := ∀ m, m < n → (m = 0 → ∀ l, sc m l = false) ∧ (0 < m → ∀ l, sc m l = (sc (P m) l || (decide (K (P m) = 2) && decide (l = tr_lc K (P m)))))
theorem tr_bc_c {f g : Nat → Bool} : ∀ j, (∀ l, l < j → f l = g l) → tr_bc f j = tr_bc g j := by
  intro j
  induction j with
  | zero => intro _; rfl
  | succ j ih =>
    intro h
    show tr_bc f j + (if f j = true then 1 else 0) = tr_bc g j + (if g j = true then 1 else 0)
    rw [ih (fun l hl => h l (by omega)), h j (by omega)]
theorem tr_bc_le {f : Nat → Bool} {a : Nat} : ∀ d, tr_bc f a ≤ tr_bc f (a + d) := by
  intro d
  induction d with
  | zero => exact Nat.le_refl _
  | succ d ih =>
    show tr_bc f a ≤ tr_bc f (a + d) + (if f (a + d) = true then 1 else 0)
    exact Nat.le_trans ih (Nat.le_add_right _ _)
theorem tr_bc_lt {f : Nat → Bool} {a b : Nat} (h : a < b) (ha : f a = true) : tr_bc f a < tr_bc f b := by
  have h1 : tr_bc f (a + 1) = tr_bc f a + 1 := by
    show tr_bc f a + (if f a = true then 1 else 0) = _
    rw [if_pos ha]
  have h2 := tr_bc_le (f := f) (a := a + 1) (b - (a + 1))
  rw [Nat.add_sub_cancel' (show a + 1 ≤ b by omega)] at h2
  omega
theorem tr_bc_top {f : Nat → Bool} {a : Nat} (h : ∀ l, a ≤ l → f l = false) : ∀ d, tr_bc f (a + d) = tr_bc f a := by
  intro d
  induction d with
  | zero => rfl
  | succ d ih =>
    show tr_bc f (a + d) + (if f (a + d) = true then 1 else 0) = _
    rw [h (a + d) (by omega), ih]
    simp
theorem tr_bc_none {f : Nat → Bool} (h : ∀ l, f l = false) : ∀ j, tr_bc f j = 0 := by
  intro j
  induction j with
  | zero => rfl
  | succ j ih =>
    show tr_bc f j + (if f j = true then 1 else 0) = 0
    rw [ih, h j]
    simp
/-- what one step up says of a scope -/
theorem tr_sc_up {K P : Nat → Nat} {sc : Nat → Nat → Bool} {n m l : Nat} (S : tr_S K P sc n) (hm : m < n) (h : sc m l = true) : 0 < m ∧ (sc (P m) l = true ∨ (K (P m) = 2 ∧ l = tr_lc K (P m))) := by
  have h0 : 0 < m := by
    rcases Nat.eq_zero_or_pos m with z | z
    · rw [(S m hm).1 z l] at h; cases h
    · exact z
  refine ⟨h0, ?_⟩
  rw [(S m hm).2 h0 l, Bool.or_eq_true, Bool.and_eq_true, decide_eq_true_iff, decide_eq_true_iff] at h
  exact h
theorem tr_sc_lt {K P : Nat → Nat} {sc : Nat → Nat → Bool} {n : Nat} (O : tr_Ok K P n) (S : tr_S K P sc n) : ∀ m, m < n → ∀ l, sc m l = true → l < tr_lc K m := by
  intro m
  induction m using Nat.strongRecOn with
  | _ m ih =>
    intro hm l h
    obtain ⟨h0, h1⟩ := tr_sc_up S hm h
    have hp := (O m h0 hm).1
    rcases h1 with h1 | ⟨h1, h2⟩
    · have := ih (P m) hp (by omega) l h1
      have := tr_lc_le (K := K) (show P m ≤ m by omega)
      omega
    · have := tr_lc_lt hp h1
      omega
theorem tr_sc_top {K P : Nat → Nat} {sc : Nat → Nat → Bool} {n m : Nat} (O : tr_Ok K P n) (S : tr_S K P sc n) (hm : m < n) : ∀ l, tr_lc K m ≤ l → sc m l = false := by
  intro l hl
  cases e : sc m l with
  | false => rfl
  | true => have := tr_sc_lt O S m hm l e; omega
/-- the nest is the number of lambdas in the scope -/
theorem tr_sc_N {K P N : Nat → Nat} {sc : Nat → Nat → Bool} {n : Nat} (O : tr_Ok K P n) (Nn : tr_N K P N n) (S : tr_S K P sc n) : ∀ m, m < n → ∀ j, tr_lc K m ≤ j → tr_bc (sc m) j = N m := by
  intro m
  induction m using Nat.strongRecOn with
  | _ m ih =>
    intro hm j hj
    rcases Nat.eq_zero_or_pos m with z | z
    · rw [(Nn m hm).1 z]
      exact tr_bc_none ((S m hm).1 z) j
    · have hp := (O m z hm).1
      have hq : P m < n := by omega
      rw [(Nn m hm).2 z]
      by_cases k : K (P m) = 2
      · rw [if_pos k]
        have hl := tr_lc_lt hp k
        have e1 : tr_bc (sc m) (tr_lc K (P m)) = N (P m) := by
          rw [← ih (P m) hp hq (tr_lc K (P m)) (Nat.le_refl _)]
          refine tr_bc_c _ (fun l h => ?_)
          rw [(S m hm).2 z l, decide_eq_false (show ¬ l = tr_lc K (P m) by omega), Bool.and_false, Bool.or_false]
        have e2 : tr_bc (sc m) (tr_lc K (P m) + 1) = N (P m) + 1 := by
          show tr_bc (sc m) (tr_lc K (P m)) + (if sc m (tr_lc K (P m)) = true then 1 else 0) = _
          rw [e1, if_pos (by rw [(S m hm).2 z _, decide_eq_true k, decide_eq_true rfl, Bool.and_true, Bool.or_true])]
        have e3 := tr_bc_top (f := sc m) (a := tr_lc K (P m) + 1) (fun l h => by
          rw [(S m hm).2 z l, tr_sc_top O S hq l (by omega), decide_eq_false (show ¬ l = tr_lc K (P m) by omega), Bool.and_false, Bool.or_false]) (j - (tr_lc K (P m) + 1))
        rw [Nat.add_sub_cancel' (show tr_lc K (P m) + 1 ≤ j by omega)] at e3
        rw [e3, e2]
      · rw [if_neg k, Nat.add_zero, ← ih (P m) hp hq j (by have := tr_lc_le (K := K) (show P m ≤ m by omega); omega)]
        refine tr_bc_c _ (fun l h => ?_)
        rw [(S m hm).2 z l, decide_eq_false k, Bool.false_and, Bool.or_false]
/-- the lambdas below l in a scope that holds l are those that enclose the LAM of l -/
theorem tr_sc_rank {K P N : Nat → Nat} {sc : Nat → Nat → Bool} {n : Nat} (O : tr_Ok K P n) (Nn : tr_N K P N n) (S : tr_S K P sc n) : ∀ m, m < n → ∀ l, sc m l = true → ∃ a, a < m ∧ K a = 2 ∧ tr_lc K a = l ∧ tr_bc (sc m) l = N a ∧ ∀ l', l' < l → sc m l' = sc a l' := by
  intro m
  induction m using Nat.strongRecOn with
  | _ m ih =>
    intro hm l h
    obtain ⟨z, h1⟩ := tr_sc_up S hm h
    have hp := (O m z hm).1
    have hq : P m < n := by omega
    have low : ∀ l', l' < tr_lc K (P m) → sc m l' = sc (P m) l' := fun l' h' => by
      rw [(S m hm).2 z l', decide_eq_false (show ¬ l' = tr_lc K (P m) by omega), Bool.and_false, Bool.or_false]
    by_cases k : sc (P m) l = true
    · have hl := tr_sc_lt O S (P m) hq l k
      obtain ⟨a, a1, a2, a3, a4, a5⟩ := ih (P m) hp hq l k
      refine ⟨a, by omega, a2, a3, ?_, fun l' h' => ?_⟩
      · rw [← a4]
        exact tr_bc_c _ (fun l' h' => low l' (by omega))
      · rw [low l' (by omega), a5 l' h']
    · rcases h1 with h1 | ⟨h1, h2⟩
      · exact absurd h1 k
      · refine ⟨P m, hp, h1, h2.symm, ?_, fun l' h' => low l' (by omega)⟩
        rw [← tr_sc_N O Nn S (P m) hq l (by omega)]
        exact tr_bc_c _ (fun l' h' => low l' (by omega))
theorem tr_sc_nest {K P N : Nat → Nat} {sc : Nat → Nat → Bool} {n m a : Nat} (O : tr_Ok K P n) (Nn : tr_N K P N n) (S : tr_S K P sc n) (hm : m < n) (ka : K a = 2) (h : sc m (tr_lc K a) = true) : a < m ∧ N a < N m ∧ tr_bc (sc m) (tr_lc K a) = N a ∧ ∀ l', l' < tr_lc K a → sc m l' = sc a l' := by
  obtain ⟨b, b1, b2, b3, b4, b5⟩ := tr_sc_rank O Nn S m hm _ h
  have e := tr_lc_inj b2 ka b3
  subst e
  refine ⟨b1, ?_, b4, b5⟩
  have h1 := tr_bc_lt (f := sc m) (b := tr_lc K m) (tr_lc_lt b1 ka) h
  rw [tr_sc_N O Nn S m hm _ (Nat.le_refl _)] at h1
  omega
/-- the binder is one: in one scope the nest tells the LAM -/
theorem tr_sc_uniq {K P N : Nat → Nat} {sc : Nat → Nat → Bool} {n m a b : Nat} (O : tr_Ok K P n) (Nn : tr_N K P N n) (S : tr_S K P sc n) (hm : m < n) (ka : K a = 2) (kb : K b = 2) (ha : sc m (tr_lc K a) = true) (hb : sc m (tr_lc K b) = true) (e : N a = N b) : a = b := by
  obtain ⟨_, _, a3, _⟩ := tr_sc_nest O Nn S hm ka ha
  obtain ⟨_, _, b3, _⟩ := tr_sc_nest O Nn S hm kb hb
  rcases Nat.lt_trichotomy (tr_lc K a) (tr_lc K b) with h | h | h
  · have := tr_bc_lt (f := sc m) h ha; omega
  · exact tr_lc_inj ka kb h
  · have := tr_bc_lt (f := sc m) h hb; omega
/-- of two LAMs around m the outer one encloses the inner one -/
theorem tr_sc_in {K P N : Nat → Nat} {sc : Nat → Nat → Bool} {n m a b : Nat} (O : tr_Ok K P n) (Nn : tr_N K P N n) (S : tr_S K P sc n) (hm : m < n) (ka : K a = 2) (kb : K b = 2) (ha : sc m (tr_lc K a) = true) (hb : sc m (tr_lc K b) = true) (h : a < b) : sc b (tr_lc K a) = true := by
  obtain ⟨_, _, _, b4⟩ := tr_sc_nest O Nn S hm kb hb
  rw [← b4 _ (tr_lc_lt h ka)]
  exact ha
end
section
/-! ===== the evaluator: a value is a number or the index of a closure ===== -/
abbrev ev_V : Type := Sum Int32 Nat
/-- calls, closures, the LAM node of each closure, its bindings by nest, the called masks by node -/
abbrev ev_S : Type := Nat × Nat × (Nat → Nat) × (Nat → Nat → ev_V) × (Nat → Int32)
/-- a value, or an ending and its node -/
abbrev ev_R : Type := Sum ev_V (Nat × Nat)
def ev_then (r : ev_R × ev_S) (g : ev_V → ev_S → ev_R × ev_S) : ev_R × ev_S :=
  match r with
  | (.inl v, s) => g v s
  | (.inr x, s) => (.inr x, s)
def ev_cs (v : ev_V) (g : Int32 → ev_R × ev_S) (h : Nat → ev_R × ev_S) : ev_R × ev_S :=
  match v with
  | .inl i => g i
  | .inr k => h k
theorem ev_then_l (v : ev_V) (s : ev_S) (g : ev_V → ev_S → ev_R × ev_S) : ev_then (.inl v, s) g = g v s := rfl
theorem ev_then_r (x : Nat × Nat) (s : ev_S) (g : ev_V → ev_S → ev_R × ev_S) : ev_then (.inr x, s) g = (.inr x, s) := rfl
theorem ev_cs_l (i : Int32) (g : Int32 → ev_R × ev_S) (h : Nat → ev_R × ev_S) : ev_cs (.inl i) g h = g i := rfl
theorem ev_cs_r (k : Nat) (g : Int32 → ev_R × ev_S) (h : Nat → ev_R × ev_S) : ev_cs (.inr k) g h = h k := rfl
def ev_clo (n : Nat) (env : Nat → ev_V) (s : ev_S) : ev_S := (s.1, s.2.1 + 1, (fun j => if j = s.2.1 then n else s.2.2.1 j), (fun j => if j = s.2.1 then env else s.2.2.2.1 j), s.2.2.2.2)
def ev_call (bm : Nat → Int32) (n k : Nat) (s : ev_S) : ev_S := (s.1 + 1, s.2.1, s.2.2.1, s.2.2.2.1, (fun j => if j = n then s.2.2.2.2 n ||| bm (s.2.2.1 k) else s.2.2.2.2 j))
def ev_env (N : Nat → Nat) (k : Nat) (w : ev_V) (s : ev_S) : Nat → ev_V := fun j => if j = N (s.2.2.1 k) then w else s.2.2.2.1 k j
/-- K kinds, e ends, N nests, ix the binding of a VAR, op the ints, bm the mask of a LAM node, cl and cm the limits -/
def ev_al (K e N ix : Nat → Nat) (op bm : Nat → Int32) (cl cm : Nat) : Nat → (Nat → ev_V) → Nat → ev_S → ev_R × ev_S
  | 0, _, _, s => (.inr (0, 0), s)
  | f + 1, env, n, s =>
    if K n = 0 then (.inl (env (ix n)), s)
    else if K n = 1 then (.inl (.inl (op n)), s)
    else if K n = 2 then (if s.2.1 = cm then (.inr (5, n), s) else (.inl (.inr s.2.1), ev_clo n env s))
    else ev_then (ev_al K e N ix op bm cl cm f env (n + 1) s) (fun v s1 =>
      if K n = 6 then ev_cs v (fun i => ev_al K e N ix op bm cl cm f env (if i = 0 then e (n + 1) else e (e (n + 1))) s1) (fun _ => (.inr (3, n), s1))
      else ev_then (ev_al K e N ix op bm cl cm f env (e (n + 1)) s1) (fun w s2 =>
        if K n = 3 then ev_cs v (fun _ => (.inr (3, n), s2)) (fun k => if s2.1 = cl then (.inr (4, n), s2) else ev_al K e N ix op bm cl cm f (ev_env N k w s2) (s2.2.2.1 k + 1) (ev_call bm n k s2))
        else ev_cs v (fun i => ev_cs w (fun j => (.inl (.inl (if K n = 4 then i + j else i - j)), s2)) (fun _ => (.inr (3, n), s2))) (fun _ => (.inr (3, n), s2))))
section
variable (K e N ix : Nat → Nat) (op bm : Nat → Int32) (cl cm : Nat)
theorem ev_var {f n : Nat} {env : Nat → ev_V} {s : ev_S} (h : K n = 0) : ev_al K e N ix op bm cl cm (f + 1) env n s = (.inl (env (ix n)), s) := by
  rw [ev_al, if_pos h]
theorem ev_num {f n : Nat} {env : Nat → ev_V} {s : ev_S} (h : K n = 1) : ev_al K e N ix op bm cl cm (f + 1) env n s = (.inl (.inl (op n)), s) := by
  rw [ev_al, if_neg (by omega), if_pos h]
theorem ev_lamF {f n : Nat} {env : Nat → ev_V} {s : ev_S} (h : K n = 2) (hc : s.2.1 = cm) : ev_al K e N ix op bm cl cm (f + 1) env n s = (.inr (5, n), s) := by
  rw [ev_al, if_neg (by omega), if_neg (by omega), if_pos h, if_pos hc]
theorem ev_lam {f n : Nat} {env : Nat → ev_V} {s : ev_S} (h : K n = 2) (hc : s.2.1 ≠ cm) : ev_al K e N ix op bm cl cm (f + 1) env n s = (.inl (.inr s.2.1), ev_clo n env s) := by
  rw [ev_al, if_neg (by omega), if_neg (by omega), if_pos h, if_neg hc]
theorem ev_e0 {f n : Nat} {env : Nat → ev_V} {s s1 : ev_S} {x : Nat × Nat} (h : 3 ≤ K n) (h1 : ev_al K e N ix op bm cl cm f env (n + 1) s = (.inr x, s1)) : ev_al K e N ix op bm cl cm (f + 1) env n s = (.inr x, s1) := by
  rw [ev_al, if_neg (by omega), if_neg (by omega), if_neg (by omega), h1, ev_then_r]
theorem ev_ifS {f n k : Nat} {env : Nat → ev_V} {s s1 : ev_S} (h : K n = 6) (h1 : ev_al K e N ix op bm cl cm f env (n + 1) s = (.inl (.inr k), s1)) : ev_al K e N ix op bm cl cm (f + 1) env n s = (.inr (3, n), s1) := by
  rw [ev_al, if_neg (by omega), if_neg (by omega), if_neg (by omega), h1, ev_then_l, if_pos h, ev_cs_r]
theorem ev_if {f n : Nat} {i : Int32} {env : Nat → ev_V} {s s1 : ev_S} (h : K n = 6) (h1 : ev_al K e N ix op bm cl cm f env (n + 1) s = (.inl (.inl i), s1)) : ev_al K e N ix op bm cl cm (f + 1) env n s = ev_al K e N ix op bm cl cm f env (if i = 0 then e (n + 1) else e (e (n + 1))) s1 := by
  rw [ev_al, if_neg (by omega), if_neg (by omega), if_neg (by omega), h1, ev_then_l, if_pos h, ev_cs_l]
theorem ev_e1 {f n : Nat} {v : ev_V} {env : Nat → ev_V} {s s1 s2 : ev_S} {x : Nat × Nat} (h : 3 ≤ K n) (h6 : K n ≠ 6) (h1 : ev_al K e N ix op bm cl cm f env (n + 1) s = (.inl v, s1)) (h2 : ev_al K e N ix op bm cl cm f env (e (n + 1)) s1 = (.inr x, s2)) : ev_al K e N ix op bm cl cm (f + 1) env n s = (.inr x, s2) := by
  rw [ev_al, if_neg (by omega), if_neg (by omega), if_neg (by omega), h1, ev_then_l, if_neg h6, h2, ev_then_r]
theorem ev_appS {f n : Nat} {i : Int32} {w : ev_V} {env : Nat → ev_V} {s s1 s2 : ev_S} (h : K n = 3) (h1 : ev_al K e N ix op bm cl cm f env (n + 1) s = (.inl (.inl i), s1)) (h2 : ev_al K e N ix op bm cl cm f env (e (n + 1)) s1 = (.inl w, s2)) : ev_al K e N ix op bm cl cm (f + 1) env n s = (.inr (3, n), s2) := by
  rw [ev_al, if_neg (by omega), if_neg (by omega), if_neg (by omega), h1, ev_then_l, if_neg (by omega), h2, ev_then_l, if_pos h, ev_cs_l]
theorem ev_appC {f n k : Nat} {w : ev_V} {env : Nat → ev_V} {s s1 s2 : ev_S} (h : K n = 3) (h1 : ev_al K e N ix op bm cl cm f env (n + 1) s = (.inl (.inr k), s1)) (h2 : ev_al K e N ix op bm cl cm f env (e (n + 1)) s1 = (.inl w, s2)) (hc : s2.1 = cl) : ev_al K e N ix op bm cl cm (f + 1) env n s = (.inr (4, n), s2) := by
  rw [ev_al, if_neg (by omega), if_neg (by omega), if_neg (by omega), h1, ev_then_l, if_neg (by omega), h2, ev_then_l, if_pos h, ev_cs_r, if_pos hc]
theorem ev_app {f n k : Nat} {w : ev_V} {env : Nat → ev_V} {s s1 s2 : ev_S} (h : K n = 3) (h1 : ev_al K e N ix op bm cl cm f env (n + 1) s = (.inl (.inr k), s1)) (h2 : ev_al K e N ix op bm cl cm f env (e (n + 1)) s1 = (.inl w, s2)) (hc : s2.1 ≠ cl) : ev_al K e N ix op bm cl cm (f + 1) env n s = ev_al K e N ix op bm cl cm f (ev_env N k w s2) (s2.2.2.1 k + 1) (ev_call bm n k s2) := by
  rw [ev_al, if_neg (by omega), if_neg (by omega), if_neg (by omega), h1, ev_then_l, if_neg (by omega), h2, ev_then_l, if_pos h, ev_cs_r, if_neg hc]
theorem ev_sum {f n : Nat} {i j : Int32} {env : Nat → ev_V} {s s1 s2 : ev_S} (h : 4 ≤ K n ∧ K n ≠ 6) (h1 : ev_al K e N ix op bm cl cm f env (n + 1) s = (.inl (.inl i), s1)) (h2 : ev_al K e N ix op bm cl cm f env (e (n + 1)) s1 = (.inl (.inl j), s2)) : ev_al K e N ix op bm cl cm (f + 1) env n s = (.inl (.inl (if K n = 4 then i + j else i - j)), s2) := by
  rw [ev_al, if_neg (by omega), if_neg (by omega), if_neg (by omega), h1, ev_then_l, if_neg (by omega), h2, ev_then_l, if_neg (by omega), ev_cs_l, ev_cs_l]
theorem ev_sumL {f n k : Nat} {w : ev_V} {env : Nat → ev_V} {s s1 s2 : ev_S} (h : 4 ≤ K n ∧ K n ≠ 6) (h1 : ev_al K e N ix op bm cl cm f env (n + 1) s = (.inl (.inr k), s1)) (h2 : ev_al K e N ix op bm cl cm f env (e (n + 1)) s1 = (.inl w, s2)) : ev_al K e N ix op bm cl cm (f + 1) env n s = (.inr (3, n), s2) := by
  rw [ev_al, if_neg (by omega), if_neg (by omega), if_neg (by omega), h1, ev_then_l, if_neg (by omega), h2, ev_then_l, if_neg (by omega), ev_cs_r]
theorem ev_sumR {f n k : Nat} {i : Int32} {env : Nat → ev_V} {s s1 s2 : ev_S} (h : 4 ≤ K n ∧ K n ≠ 6) (h1 : ev_al K e N ix op bm cl cm f env (n + 1) s = (.inl (.inl i), s1)) (h2 : ev_al K e N ix op bm cl cm f env (e (n + 1)) s1 = (.inl (.inr k), s2)) : ev_al K e N ix op bm cl cm (f + 1) env n s = (.inr (3, n), s2) := by
  rw [ev_al, if_neg (by omega), if_neg (by omega), if_neg (by omega), h1, ev_then_l, if_neg (by omega), h2, ev_then_l, if_neg (by omega), ev_cs_l, ev_cs_r]
/-! the induction: M f env n s r s' -/
theorem ev_ind (M : Nat → (Nat → ev_V) → Nat → ev_S → ev_R → ev_S → Prop)
    (c0 : ∀ env n s, M 0 env n s (.inr (0, 0)) s)
    (cvar : ∀ f env n s, K n = 0 → M (f + 1) env n s (.inl (env (ix n))) s)
    (cnum : ∀ f env n s, K n = 1 → M (f + 1) env n s (.inl (.inl (op n))) s)
    (clamF : ∀ f env n (s : ev_S), K n = 2 → s.2.1 = cm → M (f + 1) env n s (.inr (5, n)) s)
    (clam : ∀ f env n (s : ev_S), K n = 2 → s.2.1 ≠ cm → M (f + 1) env n s (.inl (.inr s.2.1)) (ev_clo n env s))
    (ce0 : ∀ f env n s x s1, 3 ≤ K n → M f env (n + 1) s (.inr x) s1 → M (f + 1) env n s (.inr x) s1)
    (cifS : ∀ f env n s k s1, K n = 6 → M f env (n + 1) s (.inl (.inr k)) s1 → M (f + 1) env n s (.inr (3, n)) s1)
    (cif : ∀ f env n s i s1 r s2, K n = 6 → M f env (n + 1) s (.inl (.inl i)) s1 → M f env (if i = 0 then e (n + 1) else e (e (n + 1))) s1 r s2 → M (f + 1) env n s r s2)
    (ce1 : ∀ f env n s v s1 x s2, 3 ≤ K n → K n ≠ 6 → M f env (n + 1) s (.inl v) s1 → M f env (e (n + 1)) s1 (.inr x) s2 → M (f + 1) env n s (.inr x) s2)
    (cappS : ∀ f env n s i s1 w s2, K n = 3 → M f env (n + 1) s (.inl (.inl i)) s1 → M f env (e (n + 1)) s1 (.inl w) s2 → M (f + 1) env n s (.inr (3, n)) s2)
    (cappC : ∀ f env n s k s1 w (s2 : ev_S), K n = 3 → s2.1 = cl → M f env (n + 1) s (.inl (.inr k)) s1 → M f env (e (n + 1)) s1 (.inl w) s2 → M (f + 1) env n s (.inr (4, n)) s2)
    (capp : ∀ f env n s k s1 w (s2 : ev_S) r s3, K n = 3 → s2.1 ≠ cl → M f env (n + 1) s (.inl (.inr k)) s1 → M f env (e (n + 1)) s1 (.inl w) s2 → M f (ev_env N k w s2) (s2.2.2.1 k + 1) (ev_call bm n k s2) r s3 → M (f + 1) env n s r s3)
    (csum : ∀ f env n s i s1 j s2, (4 ≤ K n ∧ K n ≠ 6) → M f env (n + 1) s (.inl (.inl i)) s1 → M f env (e (n + 1)) s1 (.inl (.inl j)) s2 → M (f + 1) env n s (.inl (.inl (if K n = 4 then i + j else i - j))) s2)
    (csumS : ∀ f env n s v s1 w s2, (4 ≤ K n ∧ K n ≠ 6) → ((∃ k, v = .inr k) ∨ (∃ k, w = .inr k)) → M f env (n + 1) s (.inl v) s1 → M f env (e (n + 1)) s1 (.inl w) s2 → M (f + 1) env n s (.inr (3, n)) s2) :
    ∀ f env n s, M f env n s (ev_al K e N ix op bm cl cm f env n s).1 (ev_al K e N ix op bm cl cm f env n s).2 := by
  intro f
  induction f with
  | zero => intro env n s; exact c0 env n s
  | succ f ih =>
    intro env n s
    by_cases k0 : K n = 0
    · rw [ev_var K e N ix op bm cl cm k0]; exact cvar f env n s k0
    by_cases k1 : K n = 1
    · rw [ev_num K e N ix op bm cl cm k1]; exact cnum f env n s k1
    by_cases k2 : K n = 2
    · by_cases hc : s.2.1 = cm
      · rw [ev_lamF K e N ix op bm cl cm k2 hc]; exact clamF f env n s k2 hc
      · rw [ev_lam K e N ix op bm cl cm k2 hc]; exact clam f env n s k2 hc
    have k3 : 3 ≤ K n := by omega
    have i1 := ih env (n + 1) s
    rcases h1 : ev_al K e N ix op bm cl cm f env (n + 1) s with ⟨r1, s1⟩
    rw [h1] at i1
    rcases r1 with v | x
    · by_cases k6 : K n = 6
      · rcases v with i | k
        · rw [ev_if K e N ix op bm cl cm k6 h1]
          exact cif f env n s i s1 _ _ k6 i1 (ih env _ s1)
        · rw [ev_ifS K e N ix op bm cl cm k6 h1]
          exact cifS f env n s k s1 k6 i1
      · have i2 := ih env (e (n + 1)) s1
        rcases h2 : ev_al K e N ix op bm cl cm f env (e (n + 1)) s1 with ⟨r2, s2⟩
        rw [h2] at i2
        rcases r2 with w | x
        · by_cases ka : K n = 3
          · rcases v with i | k
            · rw [ev_appS K e N ix op bm cl cm ka h1 h2]
              exact cappS f env n s i s1 w s2 ka i1 i2
            · by_cases hc : s2.1 = cl
              · rw [ev_appC K e N ix op bm cl cm ka h1 h2 hc]
                exact cappC f env n s k s1 w s2 ka hc i1 i2
              · rw [ev_app K e N ix op bm cl cm ka h1 h2 hc]
                exact capp f env n s k s1 w s2 _ _ ka hc i1 i2 (ih _ _ _)
          · have ks : 4 ≤ K n ∧ K n ≠ 6 := by omega
            rcases v with i | k
            · rcases w with j | k
              · rw [ev_sum K e N ix op bm cl cm ks h1 h2]
                exact csum f env n s i s1 j s2 ks i1 i2
              · rw [ev_sumR K e N ix op bm cl cm ks h1 h2]
                exact csumS f env n s _ s1 _ s2 ks (Or.inr ⟨k, rfl⟩) i1 i2
            · rw [ev_sumL K e N ix op bm cl cm ks h1 h2]
              exact csumS f env n s _ s1 _ s2 ks (Or.inl ⟨k, rfl⟩) i1 i2
        · rw [ev_e1 K e N ix op bm cl cm k3 k6 h1 h2]
          exact ce1 f env n s v s1 x s2 k3 k6 i1 i2
    · rw [ev_e0 K e N ix op bm cl cm k3 h1]
      exact ce0 f env n s x s1 k3 i1
end
end
section
/-! ===== the tree as the evaluator sees it ===== -/
def tr_C (K e N : Nat → Nat) (n : Nat) : Prop := ∀ p, p < n → (K p = 2 → N (p + 1) = N p + 1) ∧ (3 ≤ K p → N (p + 1) = N p ∧ N (e (p + 1)) = N p ∧ (K p = 6 → N (e (e (p + 1))) = N p))
def ev_T (K e N ix : Nat → Nat) (n : Nat) : Prop := tr_T K e n ∧ tr_C K e N n ∧ n ≤ 48 ∧ (∀ m, m < n → K m ≤ 6) ∧ (∀ m, m < n → K m = 0 → ix m < N m)
theorem tr_ar_0 {k : Nat} (h : k < 2) : tr_ar k = 0 := by
  unfold tr_ar; rw [if_neg (by omega), if_neg (by omega), if_neg (by omega)]
theorem tr_ar_1 {k : Nat} (h : k = 2) : tr_ar k = 1 := by
  unfold tr_ar; rw [if_pos h]
theorem tr_ar_2 {k : Nat} (h : 3 ≤ k) (h6 : k ≠ 6) : tr_ar k = 2 := by
  unfold tr_ar; rw [if_neg (by omega), if_neg h6, if_pos h]
theorem tr_ar_3 {k : Nat} (h : k = 6) : tr_ar k = 3 := by
  unfold tr_ar; rw [if_neg (by omega), if_pos h]
theorem tr_k0 {K e : Nat → Nat} {n p : Nat} (T : tr_T K e n) (hp : p < n) (h : K p < 2) : e p = p + 1 := (T p hp).2.2.1 (tr_ar_0 h)
theorem tr_k2 {K e : Nat → Nat} {n p : Nat} (T : tr_T K e n) (hp : p < n) (h : K p = 2) : p + 1 < n ∧ p + 1 < e (p + 1) ∧ e (p + 1) ≤ n ∧ e p = e (p + 1) := by
  obtain ⟨a1, a2⟩ := (T p hp).2.2.2.1 (tr_ar_1 h)
  exact ⟨a1, (T _ a1).1, (T _ a1).2.1, a2⟩
theorem tr_k3 {K e : Nat → Nat} {n p : Nat} (T : tr_T K e n) (hp : p < n) (h : 3 ≤ K p) (h6 : K p ≠ 6) : p + 1 < n ∧ p + 1 < e (p + 1) ∧ e (p + 1) < n ∧ e (p + 1) < e (e (p + 1)) ∧ e (e (p + 1)) ≤ n ∧ e p = e (e (p + 1)) := by
  obtain ⟨a1, a2, a3⟩ := (T p hp).2.2.2.2.1 (tr_ar_2 h h6)
  exact ⟨a1, (T _ a1).1, a2, (T _ a2).1, (T _ a2).2.1, a3⟩
theorem tr_k6 {K e : Nat → Nat} {n p : Nat} (T : tr_T K e n) (hp : p < n) (h : K p = 6) : p + 1 < n ∧ p + 1 < e (p + 1) ∧ e (p + 1) < n ∧ e (p + 1) < e (e (p + 1)) ∧ e (e (p + 1)) < n ∧ e (e (p + 1)) < e (e (e (p + 1))) ∧ e (e (e (p + 1))) ≤ n ∧ e p = e (e (e (p + 1))) := by
  obtain ⟨a1, a2, a3, a4⟩ := (T p hp).2.2.2.2.2 (tr_ar_3 h)
  exact ⟨a1, (T _ a1).1, a2, (T _ a2).1, a3, (T _ a3).1, (T _ a3).2.1, a4⟩
/-! ===== states in order ===== -/
def ev_ok (c : Nat) (v : ev_V) : Prop := ∀ k, v = .inr k → k < c
def ev_W (K N : Nat → Nat) (n cl cm : Nat) (s : ev_S) : Prop := s.1 ≤ cl ∧ s.2.1 ≤ cm ∧ ∀ k, k < s.2.1 → s.2.2.1 k < n ∧ K (s.2.2.1 k) = 2 ∧ ∀ i, i < N (s.2.2.1 k) → ev_ok s.2.1 (s.2.2.2.1 k i)
def ev_E (N : Nat → Nat) (m : Nat) (env : Nat → ev_V) (s : ev_S) : Prop := ∀ i, i < N m → ev_ok s.2.1 (env i)
def ev_X (s s' : ev_S) : Prop := s.1 ≤ s'.1 ∧ s.2.1 ≤ s'.2.1 ∧ ∀ k, k < s.2.1 → s'.2.2.1 k = s.2.2.1 k ∧ s'.2.2.2.1 k = s.2.2.2.1 k
def ev_Pre (K e N : Nat → Nat) (n cl cm f : Nat) (env : Nat → ev_V) (m : Nat) (s : ev_S) : Prop := m < n ∧ 48 * (cl - s.1) + (e m - m) ≤ f ∧ ev_W K N n cl cm s ∧ ev_E N m env s
def ev_Post (K N : Nat → Nat) (n cl cm : Nat) (s : ev_S) (r : ev_R) (s' : ev_S) : Prop := ev_W K N n cl cm s' ∧ ev_X s s' ∧ (∀ v, r = .inl v → ev_ok s'.2.1 v) ∧ (∀ x, r = .inr x → 3 ≤ x.1 ∧ x.1 ≤ 5 ∧ x.2 < n)
theorem ev_ok_up {c d : Nat} {v : ev_V} (h : ev_ok c v) (hd : c ≤ d) : ev_ok d v := fun k e => Nat.lt_of_lt_of_le (h k e) hd
theorem ev_ok_n (c : Nat) (i : Int32) : ev_ok c (.inl i) := fun _ e => nomatch e
theorem ev_E_up {N : Nat → Nat} {m m' : Nat} {env : Nat → ev_V} {s s' : ev_S} (h : ev_E N m env s) (hN : N m' = N m) (x : ev_X s s') : ev_E N m' env s' := fun i hi => ev_ok_up (h i (by omega)) x.2.1
theorem ev_X_r (s : ev_S) : ev_X s s := ⟨Nat.le_refl _, Nat.le_refl _, fun _ _ => ⟨rfl, rfl⟩⟩
theorem ev_X_t {s t u : ev_S} (h : ev_X s t) (g : ev_X t u) : ev_X s u :=
  ⟨Nat.le_trans h.1 g.1, Nat.le_trans h.2.1 g.2.1, fun k hk => by
    have a := h.2.2 k hk
    have b := g.2.2 k (Nat.lt_of_lt_of_le hk h.2.1)
    exact ⟨b.1.trans a.1, b.2.trans a.2⟩⟩
theorem ev_clo_X (n : Nat) (env : Nat → ev_V) (s : ev_S) : ev_X s (ev_clo n env s) :=
  ⟨Nat.le_refl _, Nat.le_succ _, fun k hk => ⟨if_neg (by omega), if_neg (by omega)⟩⟩
theorem ev_clo_W {K N : Nat → Nat} {n cl cm m : Nat} {env : Nat → ev_V} {s : ev_S} (W : ev_W K N n cl cm s) (hm : m < n) (hk : K m = 2) (hc : s.2.1 ≠ cm) (E : ev_E N m env s) : ev_W K N n cl cm (ev_clo m env s) := by
  obtain ⟨w1, w2, w3⟩ := W
  refine ⟨w1, show s.2.1 + 1 ≤ cm by omega, fun k hk' => ?_⟩
  have hk2 : k < s.2.1 + 1 := hk'
  show (if k = s.2.1 then m else s.2.2.1 k) < n ∧ K (if k = s.2.1 then m else s.2.2.1 k) = 2 ∧ ∀ i, i < N (if k = s.2.1 then m else s.2.2.1 k) → ev_ok (s.2.1 + 1) ((if k = s.2.1 then env else s.2.2.2.1 k) i)
  by_cases z : k = s.2.1
  · rw [if_pos z, if_pos z]
    exact ⟨hm, hk, fun i hi => ev_ok_up (E i hi) (Nat.le_succ _)⟩
  · rw [if_neg z, if_neg z]
    obtain ⟨a, b, c⟩ := w3 k (by omega)
    exact ⟨a, b, fun i hi => ev_ok_up (c i hi) (Nat.le_succ _)⟩
theorem ev_call_X (bm : Nat → Int32) (m k : Nat) (s : ev_S) : ev_X s (ev_call bm m k s) := ⟨Nat.le_succ _, Nat.le_refl _, fun _ _ => ⟨rfl, rfl⟩⟩
theorem ev_call_W {K N : Nat → Nat} {bm : Nat → Int32} {n cl cm m k : Nat} {s : ev_S} (W : ev_W K N n cl cm s) (hc : s.1 ≠ cl) : ev_W K N n cl cm (ev_call bm m k s) := by
  obtain ⟨w1, w2, w3⟩ := W
  exact ⟨show s.1 + 1 ≤ cl by omega, w2, w3⟩
theorem ev_env_E {K N : Nat → Nat} {bm : Nat → Int32} {n cl cm m k a : Nat} {w : ev_V} {s : ev_S} (W : ev_W K N n cl cm s) (hk : k < s.2.1) (ha : s.2.2.1 k = a) (hN : N (a + 1) = N a + 1) (hw : ev_ok s.2.1 w) : ev_E N (a + 1) (ev_env N k w s) (ev_call bm m k s) := by
  intro i hi
  show ev_ok s.2.1 (if i = N (s.2.2.1 k) then w else s.2.2.2.1 k i)
  by_cases z : i = N (s.2.2.1 k)
  · rw [if_pos z]; exact hw
  · rw [if_neg z]
    refine (W.2.2 k hk).2.2 i ?_
    rw [ha] at z ⊢
    omega
/-! the induction over states in order: every case is given what is known of them -/
theorem ev_ind2 (K e N ix : Nat → Nat) (op bm : Nat → Int32) (cl cm n : Nat) (T : ev_T K e N ix n)
    (M : Nat → (Nat → ev_V) → Nat → ev_S → ev_R → ev_S → Prop)
    (cvar : ∀ f env m s, ev_Pre K e N n cl cm (f + 1) env m s → K m = 0 → M (f + 1) env m s (.inl (env (ix m))) s)
    (cnum : ∀ f env m s, ev_Pre K e N n cl cm (f + 1) env m s → K m = 1 → M (f + 1) env m s (.inl (.inl (op m))) s)
    (clamF : ∀ f env m (s : ev_S), ev_Pre K e N n cl cm (f + 1) env m s → K m = 2 → s.2.1 = cm → M (f + 1) env m s (.inr (5, m)) s)
    (clam : ∀ f env m (s : ev_S), ev_Pre K e N n cl cm (f + 1) env m s → K m = 2 → s.2.1 ≠ cm → M (f + 1) env m s (.inl (.inr s.2.1)) (ev_clo m env s))
    (ce0 : ∀ f env m s x s1, ev_Pre K e N n cl cm (f + 1) env m s → 3 ≤ K m → ev_Pre K e N n cl cm f env (m + 1) s → ev_Post K N n cl cm s (.inr x) s1 → M f env (m + 1) s (.inr x) s1 → M (f + 1) env m s (.inr x) s1)
    (cifS : ∀ f env m s k s1, ev_Pre K e N n cl cm (f + 1) env m s → K m = 6 → ev_Pre K e N n cl cm f env (m + 1) s → ev_Post K N n cl cm s (.inl (.inr k)) s1 → M f env (m + 1) s (.inl (.inr k)) s1 → M (f + 1) env m s (.inr (3, m)) s1)
    (cif : ∀ f env m s i s1 r s2, ev_Pre K e N n cl cm (f + 1) env m s → K m = 6 → ev_Pre K e N n cl cm f env (m + 1) s → ev_Post K N n cl cm s (.inl (.inl i)) s1 → ev_Pre K e N n cl cm f env (if i = 0 then e (m + 1) else e (e (m + 1))) s1 → ev_Post K N n cl cm s1 r s2 → M f env (m + 1) s (.inl (.inl i)) s1 → M f env (if i = 0 then e (m + 1) else e (e (m + 1))) s1 r s2 → M (f + 1) env m s r s2)
    (ce1 : ∀ f env m s v s1 x s2, ev_Pre K e N n cl cm (f + 1) env m s → 3 ≤ K m → K m ≠ 6 → ev_Pre K e N n cl cm f env (m + 1) s → ev_Post K N n cl cm s (.inl v) s1 → ev_Pre K e N n cl cm f env (e (m + 1)) s1 → ev_Post K N n cl cm s1 (.inr x) s2 → M f env (m + 1) s (.inl v) s1 → M f env (e (m + 1)) s1 (.inr x) s2 → M (f + 1) env m s (.inr x) s2)
    (cappS : ∀ f env m s i s1 w s2, ev_Pre K e N n cl cm (f + 1) env m s → K m = 3 → ev_Pre K e N n cl cm f env (m + 1) s → ev_Post K N n cl cm s (.inl (.inl i)) s1 → ev_Pre K e N n cl cm f env (e (m + 1)) s1 → ev_Post K N n cl cm s1 (.inl w) s2 → M f env (m + 1) s (.inl (.inl i)) s1 → M f env (e (m + 1)) s1 (.inl w) s2 → M (f + 1) env m s (.inr (3, m)) s2)
    (cappC : ∀ f env m s k s1 w (s2 : ev_S), ev_Pre K e N n cl cm (f + 1) env m s → K m = 3 → s2.1 = cl → ev_Pre K e N n cl cm f env (m + 1) s → ev_Post K N n cl cm s (.inl (.inr k)) s1 → ev_Pre K e N n cl cm f env (e (m + 1)) s1 → ev_Post K N n cl cm s1 (.inl w) s2 → M f env (m + 1) s (.inl (.inr k)) s1 → M f env (e (m + 1)) s1 (.inl w) s2 → M (f + 1) env m s (.inr (4, m)) s2)
    (capp : ∀ f env m s k s1 w (s2 : ev_S) r s3, ev_Pre K e N n cl cm (f + 1) env m s → K m = 3 → s2.1 ≠ cl → ev_Pre K e N n cl cm f env (m + 1) s → ev_Post K N n cl cm s (.inl (.inr k)) s1 → ev_Pre K e N n cl cm f env (e (m + 1)) s1 → ev_Post K N n cl cm s1 (.inl w) s2 → ev_Pre K e N n cl cm f (ev_env N k w s2) (s2.2.2.1 k + 1) (ev_call bm m k s2) → ev_Post K N n cl cm (ev_call bm m k s2) r s3 → M f env (m + 1) s (.inl (.inr k)) s1 → M f env (e (m + 1)) s1 (.inl w) s2 → M f (ev_env N k w s2) (s2.2.2.1 k + 1) (ev_call bm m k s2) r s3 → M (f + 1) env m s r s3)
    (csum : ∀ f env m s i s1 j s2, ev_Pre K e N n cl cm (f + 1) env m s → (K m = 4 ∨ K m = 5) → ev_Pre K e N n cl cm f env (m + 1) s → ev_Post K N n cl cm s (.inl (.inl i)) s1 → ev_Pre K e N n cl cm f env (e (m + 1)) s1 → ev_Post K N n cl cm s1 (.inl (.inl j)) s2 → M f env (m + 1) s (.inl (.inl i)) s1 → M f env (e (m + 1)) s1 (.inl (.inl j)) s2 → M (f + 1) env m s (.inl (.inl (if K m = 4 then i + j else i - j))) s2)
    (csumS : ∀ f env m s v s1 w s2, ev_Pre K e N n cl cm (f + 1) env m s → (K m = 4 ∨ K m = 5) → ((∃ k, v = .inr k) ∨ (∃ k, w = .inr k)) → ev_Pre K e N n cl cm f env (m + 1) s → ev_Post K N n cl cm s (.inl v) s1 → ev_Pre K e N n cl cm f env (e (m + 1)) s1 → ev_Post K N n cl cm s1 (.inl w) s2 → M f env (m + 1) s (.inl v) s1 → M f env (e (m + 1)) s1 (.inl w) s2 → M (f + 1) env m s (.inr (3, m)) s2) :
    ∀ f env m s, ev_Pre K e N n cl cm f env m s → M f env m s (ev_al K e N ix op bm cl cm f env m s).1 (ev_al K e N ix op bm cl cm f env m s).2 ∧ ev_Post K N n cl cm s (ev_al K e N ix op bm cl cm f env m s).1 (ev_al K e N ix op bm cl cm f env m s).2 := by
  obtain ⟨T1, T2, T3, T4, T5⟩ := T
  -- the first child, the second child, a branch
  have q1 : ∀ f env m s, ev_Pre K e N n cl cm (f + 1) env m s → 3 ≤ K m → ev_Pre K e N n cl cm f env (m + 1) s := by
    intro f env m s ⟨p1, p2, p3, p4⟩ k
    have hN := ((T2 m p1).2 k).1
    have hs : m + 1 < n ∧ e (m + 1) ≤ e m ∧ m < e m := by
      by_cases k6 : K m = 6
      · have := tr_k6 T1 p1 k6; have := (T1 m p1).1; omega
      · have := tr_k3 T1 p1 k k6; have := (T1 m p1).1; omega
    exact ⟨hs.1, by omega, p3, ev_E_up p4 hN (ev_X_r s)⟩
  have q2 : ∀ f env m s (v : ev_V) s1, ev_Pre K e N n cl cm (f + 1) env m s → 3 ≤ K m → ev_Post K N n cl cm s (.inl v) s1 → ev_Pre K e N n cl cm f env (e (m + 1)) s1 := by
    intro f env m s v s1 ⟨p1, p2, p3, p4⟩ k ⟨w1, w2, _, _⟩
    have hN := ((T2 m p1).2 k).2.1
    have hs : e (m + 1) < n ∧ e (e (m + 1)) ≤ e m ∧ m < e (m + 1) ∧ e (m + 1) < e (e (m + 1)) := by
      by_cases k6 : K m = 6
      · have := tr_k6 T1 p1 k6; omega
      · have := tr_k3 T1 p1 k k6; omega
    have hc := w2.1
    exact ⟨hs.1, by omega, w1, ev_E_up p4 hN w2⟩
  have q3 : ∀ f env m s (v : ev_V) s1 (i : Int32), ev_Pre K e N n cl cm (f + 1) env m s → K m = 6 → ev_Post K N n cl cm s (.inl v) s1 → ev_Pre K e N n cl cm f env (if i = 0 then e (m + 1) else e (e (m + 1))) s1 := by
    intro f env m s v s1 i P k Q
    by_cases z : i = 0
    · rw [if_pos z]; exact q2 f env m s v s1 P (by omega) Q
    · rw [if_neg z]
      obtain ⟨p1, p2, p3, p4⟩ := P
      obtain ⟨w1, w2, _, _⟩ := Q
      have hN := ((T2 m p1).2 (by omega)).2.2 k
      have hs := tr_k6 T1 p1 k
      have hc := w2.1
      exact ⟨by omega, by omega, w1, ev_E_up p4 hN w2⟩
  have x1 : ∀ m, m < n → ∀ a, 3 ≤ a → a ≤ 5 → ∀ x : Nat × Nat, (Sum.inr (a, m) : ev_R) = .inr x → 3 ≤ x.1 ∧ x.1 ≤ 5 ∧ x.2 < n := by
    intro m hm a h1 h2 x e
    cases e
    exact ⟨h1, h2, hm⟩
  have nl : ∀ {P : Prop} {v : ev_V} {x : Nat × Nat}, (Sum.inl v : ev_R) = .inr x → P := fun e => nomatch e
  have nr : ∀ {P : Prop} {v : ev_V} {x : Nat × Nat}, (Sum.inr x : ev_R) = .inl v → P := fun e => nomatch e
  refine ev_ind K e N ix op bm cl cm (fun f env m s r s' => ev_Pre K e N n cl cm f env m s → M f env m s r s' ∧ ev_Post K N n cl cm s r s') ?_ ?_ ?_ ?_ ?_ ?_ ?_ ?_ ?_ ?_ ?_ ?_ ?_ ?_
  · intro env m s ⟨p1, p2, _, _⟩
    have := (T1 m p1).1
    omega
  · intro f env m s k P
    exact ⟨cvar f env m s P k, P.2.2.1, ev_X_r s, fun v h => by cases h; exact P.2.2.2 _ (T5 m P.1 k), fun x h => nl h⟩
  · intro f env m s k P
    exact ⟨cnum f env m s P k, P.2.2.1, ev_X_r s, fun v h => by cases h; exact ev_ok_n _ _, fun x h => nl h⟩
  · intro f env m s k hc P
    exact ⟨clamF f env m s P k hc, P.2.2.1, ev_X_r s, fun v h => nr h, x1 m P.1 5 (by omega) (by omega)⟩
  · intro f env m s k hc P
    exact ⟨clam f env m s P k hc, ev_clo_W P.2.2.1 P.1 k hc P.2.2.2, ev_clo_X m env s, fun v h => by cases h; exact fun j hj => by cases hj; exact Nat.lt_succ_self _, fun x h => nl h⟩
  · intro f env m s x s1 k h1 P
    have A := q1 f env m s P k
    obtain ⟨m1, g1⟩ := h1 A
    exact ⟨ce0 f env m s x s1 P k A g1 m1, g1⟩
  · intro f env m s k s1 k6 h1 P
    have A := q1 f env m s P (by omega)
    obtain ⟨m1, g1⟩ := h1 A
    exact ⟨cifS f env m s k s1 P k6 A g1 m1, g1.1, g1.2.1, fun v h => nr h, x1 m P.1 3 (by omega) (by omega)⟩
  · intro f env m s i s1 r s2 k6 h1 h2 P
    have A := q1 f env m s P (by omega)
    obtain ⟨m1, g1⟩ := h1 A
    have B := q3 f env m s _ s1 i P k6 g1
    obtain ⟨m2, g2⟩ := h2 B
    exact ⟨cif f env m s i s1 r s2 P k6 A g1 B g2 m1 m2, g2.1, ev_X_t g1.2.1 g2.2.1, g2.2.2⟩
  · intro f env m s v s1 x s2 k k6 h1 h2 P
    have A := q1 f env m s P k
    obtain ⟨m1, g1⟩ := h1 A
    have B := q2 f env m s v s1 P k g1
    obtain ⟨m2, g2⟩ := h2 B
    exact ⟨ce1 f env m s v s1 x s2 P k k6 A g1 B g2 m1 m2, g2.1, ev_X_t g1.2.1 g2.2.1, g2.2.2⟩
  · intro f env m s i s1 w s2 k h1 h2 P
    have A := q1 f env m s P (by omega)
    obtain ⟨m1, g1⟩ := h1 A
    have B := q2 f env m s _ s1 P (by omega) g1
    obtain ⟨m2, g2⟩ := h2 B
    exact ⟨cappS f env m s i s1 w s2 P k A g1 B g2 m1 m2, g2.1, ev_X_t g1.2.1 g2.2.1, fun v h => nr h, x1 m P.1 3 (by omega) (by omega)⟩
  · intro f env m s j s1 w s2 k hc h1 h2 P
    have A := q1 f env m s P (by omega)
    obtain ⟨m1, g1⟩ := h1 A
    have B := q2 f env m s _ s1 P (by omega) g1
    obtain ⟨m2, g2⟩ := h2 B
    exact ⟨cappC f env m s j s1 w s2 P k hc A g1 B g2 m1 m2, g2.1, ev_X_t g1.2.1 g2.2.1, fun v h => nr h, x1 m P.1 4 (by omega) (by omega)⟩
  · intro f env m s j s1 w s2 r s3 k hc h1 h2 h3 P
    have A := q1 f env m s P (by omega)
    obtain ⟨m1, g1⟩ := h1 A
    have B := q2 f env m s _ s1 P (by omega) g1
    obtain ⟨m2, g2⟩ := h2 B
    have hj : j < s2.2.1 := Nat.lt_of_lt_of_le (g1.2.2.1 _ rfl j rfl) g2.2.1.2.1
    obtain ⟨b1, b2, b3⟩ := g2.1.2.2 j hj
    have hb := tr_k2 T1 b1 b2
    have C : ev_Pre K e N n cl cm f (ev_env N j w s2) (s2.2.2.1 j + 1) (ev_call bm m j s2) := by
      refine ⟨hb.1, ?_, ev_call_W g2.1 hc, ev_env_E g2.1 hj rfl ((T2 _ b1).1 b2) (g2.2.2.1 _ rfl)⟩
      show 48 * (cl - (s2.1 + 1)) + _ ≤ f
      have h4 := g1.2.1.1
      have h5 := g2.2.1.1
      have h6 := g2.1.1
      have h7 := P.2.1
      have h8 := (T1 m P.1).1
      omega
    obtain ⟨m3, g3⟩ := h3 C
    exact ⟨capp f env m s j s1 w s2 r s3 P k hc A g1 B g2 C g3 m1 m2 m3, g3.1, ev_X_t (ev_X_t g1.2.1 g2.2.1) (ev_X_t (ev_call_X bm m j s2) g3.2.1), g3.2.2⟩
  · intro f env m s i s1 j s2 k h1 h2 P
    have k5 := T4 m P.1
    have A := q1 f env m s P (by omega)
    obtain ⟨m1, g1⟩ := h1 A
    have B := q2 f env m s _ s1 P (by omega) g1
    obtain ⟨m2, g2⟩ := h2 B
    exact ⟨csum f env m s i s1 j s2 P (by omega) A g1 B g2 m1 m2, g2.1, ev_X_t g1.2.1 g2.2.1, fun v h => by cases h; exact ev_ok_n _ _, fun x h => nl h⟩
  · intro f env m s v s1 w s2 k hv h1 h2 P
    have k5 := T4 m P.1
    have A := q1 f env m s P (by omega)
    obtain ⟨m1, g1⟩ := h1 A
    have B := q2 f env m s v s1 P (by omega) g1
    obtain ⟨m2, g2⟩ := h2 B
    exact ⟨csumS f env m s v s1 w s2 P (by omega) hv A g1 B g2 m1 m2, g2.1, ev_X_t g1.2.1 g2.2.1, fun v h => nr h, x1 m P.1 3 (by omega) (by omega)⟩
end
section
/-! ===== the solution: live marks (0 or 1), masks of nodes, masks of lambdas; one pass over the nodes in their order ===== -/
abbrev so_S : Type := (Nat → Nat) × (Nat → Nat) × (Nat → Nat)
def so_sub (a b : Nat) : Prop := a ||| b = b
theorem so_sub_bit {a b : Nat} : so_sub a b ↔ ∀ i, a.testBit i = true → b.testBit i = true := by
  constructor
  · intro h i hi
    have h' : a ||| b = b := h
    rw [← h', Nat.testBit_or, hi, Bool.true_or]
  · intro h
    show a ||| b = b
    apply Nat.eq_of_testBit_eq
    intro i
    rw [Nat.testBit_or]
    cases e : a.testBit i with
    | false => exact Bool.false_or _
    | true => rw [h i e, Bool.true_or]
theorem so_sub_r (a : Nat) : so_sub a a := Nat.or_self a
theorem so_sub_t {a b c : Nat} (h : so_sub a b) (g : so_sub b c) : so_sub a c := so_sub_bit.mpr (fun i hi => so_sub_bit.mp g i (so_sub_bit.mp h i hi))
theorem so_sub_a {a b : Nat} (h : so_sub a b) (g : so_sub b a) : a = b := by
  apply Nat.eq_of_testBit_eq
  intro i
  have h1 := so_sub_bit.mp h i
  have h2 := so_sub_bit.mp g i
  cases e : a.testBit i with
  | false =>
    cases e2 : b.testBit i with
    | false => rfl
    | true => rw [h2 e2] at e; cases e
  | true => rw [h1 e]
theorem so_sub_l (a b : Nat) : so_sub a (a ||| b) := so_sub_bit.mpr (fun i hi => by rw [Nat.testBit_or, hi, Bool.true_or])
theorem so_sub_o (a b : Nat) : so_sub b (a ||| b) := so_sub_bit.mpr (fun i hi => by rw [Nat.testBit_or, hi, Bool.or_true])
theorem so_sub_le {a b : Nat} (h : so_sub a b) : a ≤ b := by
  have h' : a ||| b = b := h
  rw [← h']
  exact Nat.left_le_or
def so_le (t u : so_S) : Prop := ∀ i, t.1 i ≤ u.1 i ∧ so_sub (t.2.1 i) (u.2.1 i) ∧ so_sub (t.2.2 i) (u.2.2 i)
theorem so_le_r (t : so_S) : so_le t t := fun _ => ⟨Nat.le_refl _, so_sub_r _, so_sub_r _⟩
theorem so_le_t {t u w : so_S} (h : so_le t u) (g : so_le u w) : so_le t w := fun i => ⟨Nat.le_trans (h i).1 (g i).1, so_sub_t (h i).2.1 (g i).2.1, so_sub_t (h i).2.2 (g i).2.2⟩
theorem so_le_a {t u : so_S} (h : so_le t u) (g : so_le u t) : t = u := by
  obtain ⟨a, b, c⟩ := t
  obtain ⟨a', b', c'⟩ := u
  have h1 : a = a' := funext fun i => Nat.le_antisymm (h i).1 (g i).1
  have h2 : b = b' := funext fun i => so_sub_a (h i).2.1 (g i).2.1
  have h3 : c = c' := funext fun i => so_sub_a (h i).2.2 (g i).2.2
  rw [h1, h2, h3]
def so_lv (t : so_S) (i : Nat) : so_S := (tr_put t.1 i 1, t.2.1, t.2.2)
def so_fl (t : so_S) (i m : Nat) : so_S := (t.1, tr_put t.2.1 i (t.2.1 i ||| m), t.2.2)
def so_pa (t : so_S) (l m : Nat) : so_S := (t.1, t.2.1, tr_put t.2.2 l (t.2.2 l ||| m))
/-- marks are 0 or 1 -/
def so_01 (t : so_S) : Prop := ∀ i, t.1 i ≤ 1
theorem so_lv_le {t : so_S} (h : so_01 t) (i : Nat) : so_le t (so_lv t i) := by
  intro j
  refine ⟨?_, so_sub_r _, so_sub_r _⟩
  show t.1 j ≤ (if j = i then 1 else t.1 j)
  by_cases z : j = i
  · rw [if_pos z]; exact h j
  · rw [if_neg z]; exact Nat.le_refl _
theorem so_fl_le (t : so_S) (i m : Nat) : so_le t (so_fl t i m) := by
  intro j
  refine ⟨Nat.le_refl _, ?_, so_sub_r _⟩
  show so_sub (t.2.1 j) (if j = i then t.2.1 i ||| m else t.2.1 j)
  by_cases z : j = i
  · rw [if_pos z, z]; exact so_sub_l _ _
  · rw [if_neg z]; exact so_sub_r _
theorem so_pa_le (t : so_S) (i m : Nat) : so_le t (so_pa t i m) := by
  intro j
  refine ⟨Nat.le_refl _, so_sub_r _, ?_⟩
  show so_sub (t.2.2 j) (if j = i then t.2.2 i ||| m else t.2.2 j)
  by_cases z : j = i
  · rw [if_pos z, z]; exact so_sub_l _ _
  · rw [if_neg z]; exact so_sub_r _
theorem so_lv_01 {t : so_S} (h : so_01 t) (i : Nat) : so_01 (so_lv t i) := by
  intro j
  show (if j = i then 1 else t.1 j) ≤ 1
  by_cases z : j = i
  · rw [if_pos z]; exact Nat.le_refl _
  · rw [if_neg z]; exact h j
theorem so_fl_01 {t : so_S} (h : so_01 t) (i m : Nat) : so_01 (so_fl t i m) := h
theorem so_pa_01 {t : so_S} (h : so_01 t) (i m : Nat) : so_01 (so_pa t i m) := h
theorem so_lv_fix {t : so_S} {i : Nat} (h : so_lv t i = t) : t.1 i = 1 := by
  have e := congrFun (congrArg (fun u : so_S => u.1) h) i
  have e' : tr_put t.1 i 1 i = t.1 i := e
  rw [tr_put_s] at e'
  exact e'.symm
theorem so_fl_fix {t : so_S} {i m : Nat} (h : so_fl t i m = t) : so_sub m (t.2.1 i) := by
  have e := congrFun (congrArg (fun u : so_S => u.2.1) h) i
  have e' : tr_put t.2.1 i (t.2.1 i ||| m) i = t.2.1 i := e
  rw [tr_put_s] at e'
  have := so_sub_o (t.2.1 i) m
  rwa [e'] at this
theorem so_pa_fix {t : so_S} {i m : Nat} (h : so_pa t i m = t) : so_sub m (t.2.2 i) := by
  have e := congrFun (congrArg (fun u : so_S => u.2.2) h) i
  have e' : tr_put t.2.2 i (t.2.2 i ||| m) i = t.2.2 i := e
  rw [tr_put_s] at e'
  have := so_sub_o (t.2.2 i) m
  rwa [e'] at this
/-! one lambda of a call, all lambdas of a call, one node, one pass -/
def so_st (c0 c1 n : Nat) (bd : Nat → Nat) (t : so_S) (l : Nat) : so_S :=
  if (t.2.1 c0).testBit l = true then so_fl (so_pa (so_lv t (bd l)) l (t.2.1 c1)) n (t.2.1 (bd l)) else t
def so_lp (c0 c1 n : Nat) (bd : Nat → Nat) (t : so_S) : Nat → so_S
  | 0 => t
  | l + 1 => so_st c0 c1 n bd (so_lp c0 c1 n bd t l) l
def so_g (K e bl lc bd : Nat → Nat) (L : Nat) (t : so_S) (n : Nat) : so_S :=
  if K n = 0 then so_fl t n (t.2.2 (bl n))
  else if K n = 1 then so_fl t n 65536
  else if K n = 2 then so_fl t n (2 ^ lc n)
  else if K n = 6 then
    (if (t.2.1 (n + 1)).testBit 16 = true then so_fl (so_lv (so_lv (so_lv t (n + 1)) (e (n + 1))) (e (e (n + 1)))) n (t.2.1 (e (n + 1)) ||| t.2.1 (e (e (n + 1)))) else so_lv t (n + 1))
  else if K n = 3 then
    (if t.2.1 (e (n + 1)) = 0 then so_lv (so_lv t (n + 1)) (e (n + 1)) else so_lp (n + 1) (e (n + 1)) n bd (so_lv (so_lv t (n + 1)) (e (n + 1))) L)
  else so_fl (so_lv (so_lv t (n + 1)) (e (n + 1))) n (t.2.1 (n + 1) &&& t.2.1 (e (n + 1)) &&& 65536)
def so_ps (K e bl lc bd : Nat → Nat) (L : Nat) (t : so_S) : Nat → so_S
  | 0 => t
  | i + 1 => if (so_ps K e bl lc bd L t i).1 i = 1 then so_g K e bl lc bd L (so_ps K e bl lc bd L t i) i else so_ps K e bl lc bd L t i
theorem so_st_up {c0 c1 n l : Nat} {bd : Nat → Nat} {t : so_S} (h : so_01 t) : so_le t (so_st c0 c1 n bd t l) ∧ so_01 (so_st c0 c1 n bd t l) := by
  unfold so_st
  by_cases z : (t.2.1 c0).testBit l = true
  · rw [if_pos z]
    exact ⟨so_le_t (so_le_t (so_lv_le h _) (so_pa_le _ _ _)) (so_fl_le _ _ _), so_lv_01 h _⟩
  · rw [if_neg z]
    exact ⟨so_le_r t, h⟩
theorem so_lp_up {c0 c1 n : Nat} {bd : Nat → Nat} {t : so_S} (h : so_01 t) : ∀ l, so_le t (so_lp c0 c1 n bd t l) ∧ so_01 (so_lp c0 c1 n bd t l) := by
  intro l
  induction l with
  | zero => exact ⟨so_le_r t, h⟩
  | succ l ih =>
    have := so_st_up (c0 := c0) (c1 := c1) (n := n) (l := l) (bd := bd) ih.2
    exact ⟨so_le_t ih.1 this.1, this.2⟩
theorem so_lp_mono {c0 c1 n : Nat} {bd : Nat → Nat} {t : so_S} (h : so_01 t) (l : Nat) : ∀ d, so_le (so_lp c0 c1 n bd t l) (so_lp c0 c1 n bd t (l + d)) := by
  intro d
  induction d with
  | zero => exact so_le_r _
  | succ d ih => exact so_le_t ih (so_st_up (so_lp_up h (l + d)).2).1
section
variable (K e bl lc bd : Nat → Nat) (L : Nat)
theorem so_g_up {t : so_S} (h : so_01 t) (n : Nat) : so_le t (so_g K e bl lc bd L t n) ∧ so_01 (so_g K e bl lc bd L t n) := by
  have h2 : so_le t (so_lv (so_lv t (n + 1)) (e (n + 1))) := so_le_t (so_lv_le h _) (so_lv_le (so_lv_01 h _) _)
  have h3 : so_01 (so_lv (so_lv t (n + 1)) (e (n + 1))) := so_lv_01 (so_lv_01 h _) _
  unfold so_g
  by_cases k0 : K n = 0
  · rw [if_pos k0]; exact ⟨so_fl_le _ _ _, h⟩
  rw [if_neg k0]
  by_cases k1 : K n = 1
  · rw [if_pos k1]; exact ⟨so_fl_le _ _ _, h⟩
  rw [if_neg k1]
  by_cases k2 : K n = 2
  · rw [if_pos k2]; exact ⟨so_fl_le _ _ _, h⟩
  rw [if_neg k2]
  by_cases k6 : K n = 6
  · rw [if_pos k6]
    by_cases z : (t.2.1 (n + 1)).testBit 16 = true
    · rw [if_pos z]
      exact ⟨so_le_t (so_le_t h2 (so_lv_le h3 _)) (so_fl_le _ _ _), so_lv_01 h3 _⟩
    · rw [if_neg z]
      exact ⟨so_lv_le h _, so_lv_01 h _⟩
  rw [if_neg k6]
  by_cases k3 : K n = 3
  · rw [if_pos k3]
    by_cases z : t.2.1 (e (n + 1)) = 0
    · rw [if_pos z]; exact ⟨h2, h3⟩
    · rw [if_neg z]
      have := so_lp_up (c0 := n + 1) (c1 := e (n + 1)) (n := n) (bd := bd) h3 L
      exact ⟨so_le_t h2 this.1, this.2⟩
  rw [if_neg k3]
  exact ⟨so_le_t h2 (so_fl_le _ _ _), h3⟩
theorem so_ps_up {t : so_S} (h : so_01 t) : ∀ i, so_le t (so_ps K e bl lc bd L t i) ∧ so_01 (so_ps K e bl lc bd L t i) := by
  intro i
  induction i with
  | zero => exact ⟨so_le_r t, h⟩
  | succ i ih =>
    show so_le t (if (so_ps K e bl lc bd L t i).1 i = 1 then so_g K e bl lc bd L (so_ps K e bl lc bd L t i) i else so_ps K e bl lc bd L t i) ∧ so_01 (if (so_ps K e bl lc bd L t i).1 i = 1 then so_g K e bl lc bd L (so_ps K e bl lc bd L t i) i else so_ps K e bl lc bd L t i)
    by_cases z : (so_ps K e bl lc bd L t i).1 i = 1
    · rw [if_pos z]
      have := so_g_up K e bl lc bd L ih.2 i
      exact ⟨so_le_t ih.1 this.1, this.2⟩
    · rw [if_neg z]; exact ih
theorem so_ps_mono {t : so_S} (h : so_01 t) (i : Nat) : ∀ d, so_le (so_ps K e bl lc bd L t i) (so_ps K e bl lc bd L t (i + d)) := by
  intro d
  induction d with
  | zero => exact so_le_r _
  | succ d ih =>
    refine so_le_t ih ?_
    show so_le _ (if (so_ps K e bl lc bd L t (i + d)).1 (i + d) = 1 then so_g K e bl lc bd L (so_ps K e bl lc bd L t (i + d)) (i + d) else so_ps K e bl lc bd L t (i + d))
    by_cases z : (so_ps K e bl lc bd L t (i + d)).1 (i + d) = 1
    · rw [if_pos z]; exact (so_g_up K e bl lc bd L (so_ps_up K e bl lc bd L h (i + d)).2 (i + d)).1
    · rw [if_neg z]; exact so_le_r _
/-- a pass that changes nothing: no node changes anything -/
theorem so_fix_g {t : so_S} {n : Nat} (h : so_01 t) (F : so_ps K e bl lc bd L t n = t) : ∀ i, i < n → t.1 i = 1 → so_g K e bl lc bd L t i = t := by
  have same : ∀ i, i ≤ n → so_ps K e bl lc bd L t i = t := fun i hi => by
    refine (so_le_a (so_ps_up K e bl lc bd L h i).1 ?_).symm
    have := so_ps_mono K e bl lc bd L h i (n - i)
    rwa [Nat.add_sub_cancel' hi, F] at this
  intro i hi hl
  have h1 := same (i + 1) (by omega)
  have h2 : (if (so_ps K e bl lc bd L t i).1 i = 1 then so_g K e bl lc bd L (so_ps K e bl lc bd L t i) i else so_ps K e bl lc bd L t i) = t := h1
  rw [same i (by omega), if_pos hl] at h2
  exact h2
end
/-! what a fixed point says (the rules of the solution) -/
def so_Cl (K e bl lc bd : Nat → Nat) (L n : Nat) (t : so_S) : Prop := ∀ m, m < n → t.1 m = 1 →
  (K m = 0 → so_sub (t.2.2 (bl m)) (t.2.1 m)) ∧ (K m = 1 → (t.2.1 m).testBit 16 = true) ∧ (K m = 2 → (t.2.1 m).testBit (lc m) = true) ∧
  (3 ≤ K m → t.1 (m + 1) = 1) ∧ (3 ≤ K m → K m ≠ 6 → t.1 (e (m + 1)) = 1) ∧
  (4 ≤ K m → K m ≠ 6 → (t.2.1 (m + 1)).testBit 16 = true → (t.2.1 (e (m + 1))).testBit 16 = true → (t.2.1 m).testBit 16 = true) ∧
  (K m = 6 → (t.2.1 (m + 1)).testBit 16 = true → t.1 (e (m + 1)) = 1 ∧ t.1 (e (e (m + 1))) = 1 ∧ so_sub (t.2.1 (e (m + 1))) (t.2.1 m) ∧ so_sub (t.2.1 (e (e (m + 1)))) (t.2.1 m)) ∧
  (K m = 3 → t.2.1 (e (m + 1)) ≠ 0 → ∀ l, l < L → (t.2.1 (m + 1)).testBit l = true → t.1 (bd l) = 1 ∧ so_sub (t.2.1 (e (m + 1))) (t.2.2 l) ∧ so_sub (t.2.1 (bd l)) (t.2.1 m))
theorem so_lp_fix {c0 c1 n L : Nat} {bd : Nat → Nat} {t : so_S} (h : so_01 t) (F : so_lp c0 c1 n bd t L = t) : ∀ l, l < L → (t.2.1 c0).testBit l = true → t.1 (bd l) = 1 ∧ so_sub (t.2.1 c1) (t.2.2 l) ∧ so_sub (t.2.1 (bd l)) (t.2.1 n) := by
  have same : ∀ l, l ≤ L → so_lp c0 c1 n bd t l = t := fun l hl => by
    refine (so_le_a (so_lp_up h l).1 ?_).symm
    have := so_lp_mono (c0 := c0) (c1 := c1) (n := n) (bd := bd) h l (L - l)
    rwa [Nat.add_sub_cancel' hl, F] at this
  intro l hl hb
  have h1 : so_st c0 c1 n bd (so_lp c0 c1 n bd t l) l = t := same (l + 1) (by omega)
  rw [same l (by omega)] at h1
  unfold so_st at h1
  rw [if_pos hb] at h1
  have a1 : so_lv t (bd l) = t := (so_le_a (so_lv_le h _) (by
    have := so_le_t (so_pa_le (so_lv t (bd l)) l (t.2.1 c1)) (so_fl_le _ n (t.2.1 (bd l)))
    rwa [h1] at this)).symm
  rw [a1] at h1
  have a2 : so_pa t l (t.2.1 c1) = t := (so_le_a (so_pa_le _ _ _) (by
    have := so_fl_le (so_pa t l (t.2.1 c1)) n (t.2.1 (bd l))
    rwa [h1] at this)).symm
  rw [a2] at h1
  exact ⟨so_lv_fix a1, so_pa_fix a2, so_fl_fix h1⟩
theorem so_or_l {a b c : Nat} (h : so_sub (a ||| b) c) : so_sub a c := so_sub_t (so_sub_l a b) h
theorem so_or_r {a b c : Nat} (h : so_sub (a ||| b) c) : so_sub b c := so_sub_t (so_sub_o a b) h
theorem so_Cl_of {K e bl lc bd : Nat → Nat} {L n : Nat} {t : so_S} (h : so_01 t) (F : so_ps K e bl lc bd L t n = t) : so_Cl K e bl lc bd L n t := by
  intro m hm hl
  have g := so_fix_g K e bl lc bd L h F m hm hl
  unfold so_g at g
  have b65 : (65536 : Nat).testBit 16 = true := by decide
  by_cases k0 : K m = 0
  · rw [if_pos k0] at g
    exact ⟨fun _ => so_fl_fix g, fun z => by omega, fun z => by omega, fun z => by omega, fun z => by omega, fun z => by omega, fun z => by omega, fun z => by omega⟩
  rw [if_neg k0] at g
  by_cases k1 : K m = 1
  · rw [if_pos k1] at g
    exact ⟨fun z => by omega, fun _ => so_sub_bit.mp (so_fl_fix g) 16 b65, fun z => by omega, fun z => by omega, fun z => by omega, fun z => by omega, fun z => by omega, fun z => by omega⟩
  rw [if_neg k1] at g
  by_cases k2 : K m = 2
  · rw [if_pos k2] at g
    exact ⟨fun z => by omega, fun z => by omega, fun _ => so_sub_bit.mp (so_fl_fix g) (lc m) Nat.testBit_two_pow_self, fun z => by omega, fun z => by omega, fun z => by omega, fun z => by omega, fun z => by omega⟩
  rw [if_neg k2] at g
  have l1 := so_lv_le h (m + 1)
  have o1 := so_lv_01 h (m + 1)
  have l2 := so_lv_le o1 (e (m + 1))
  have o2 := so_lv_01 o1 (e (m + 1))
  by_cases k6 : K m = 6
  · rw [if_pos k6] at g
    by_cases z : (t.2.1 (m + 1)).testBit 16 = true
    · rw [if_pos z] at g
      have l3 := so_lv_le o2 (e (e (m + 1)))
      have l4 := so_fl_le (so_lv (so_lv (so_lv t (m + 1)) (e (m + 1))) (e (e (m + 1)))) m (t.2.1 (e (m + 1)) ||| t.2.1 (e (e (m + 1))))
      rw [g] at l4
      have a1 : so_lv t (m + 1) = t := (so_le_a l1 (so_le_t l2 (so_le_t l3 l4))).symm
      rw [a1] at l2 l3 l4 g
      have a2 : so_lv t (e (m + 1)) = t := (so_le_a l2 (so_le_t l3 l4)).symm
      rw [a2] at l3 l4 g
      have a3 : so_lv t (e (e (m + 1))) = t := (so_le_a l3 l4).symm
      rw [a3] at g
      have a4 := so_fl_fix g
      exact ⟨fun z => by omega, fun z => by omega, fun z => by omega, fun _ => so_lv_fix a1, fun _ z => absurd k6 z, fun _ z => absurd k6 z, fun _ _ => ⟨so_lv_fix a2, so_lv_fix a3, so_or_l a4, so_or_r a4⟩, fun z => by omega⟩
    · rw [if_neg z] at g
      exact ⟨fun z => by omega, fun z => by omega, fun z => by omega, fun _ => so_lv_fix g, fun _ z => absurd k6 z, fun _ z => absurd k6 z, fun _ y => absurd y z, fun z => by omega⟩
  rw [if_neg k6] at g
  by_cases k3 : K m = 3
  · rw [if_pos k3] at g
    by_cases z : t.2.1 (e (m + 1)) = 0
    · rw [if_pos z] at g
      rw [g] at l2
      have a1 : so_lv t (m + 1) = t := (so_le_a l1 l2).symm
      rw [a1] at g
      exact ⟨fun z => by omega, fun z => by omega, fun z => by omega, fun _ => so_lv_fix a1, fun _ _ => so_lv_fix g, fun z => by omega, fun z => by omega, fun _ y => absurd z y⟩
    · rw [if_neg z] at g
      have l4 := (so_lp_up (c0 := m + 1) (c1 := e (m + 1)) (n := m) (bd := bd) o2 L).1
      rw [g] at l4
      have a1 : so_lv t (m + 1) = t := (so_le_a l1 (so_le_t l2 l4)).symm
      rw [a1] at l2 l4 g
      have a2 : so_lv t (e (m + 1)) = t := (so_le_a l2 l4).symm
      rw [a2] at g
      exact ⟨fun z => by omega, fun z => by omega, fun z => by omega, fun _ => so_lv_fix a1, fun _ _ => so_lv_fix a2, fun z => by omega, fun z => by omega, fun _ _ => so_lp_fix h g⟩
  rw [if_neg k3] at g
  have l4 := so_fl_le (so_lv (so_lv t (m + 1)) (e (m + 1))) m (t.2.1 (m + 1) &&& t.2.1 (e (m + 1)) &&& 65536)
  rw [g] at l4
  have a1 : so_lv t (m + 1) = t := (so_le_a l1 (so_le_t l2 l4)).symm
  rw [a1] at l2 l4 g
  have a2 : so_lv t (e (m + 1)) = t := (so_le_a l2 l4).symm
  rw [a2] at g
  have a4 := so_sub_bit.mp (so_fl_fix g) 16
  exact ⟨fun z => by omega, fun z => by omega, fun z => by omega, fun _ => so_lv_fix a1, fun _ _ => so_lv_fix a2, fun _ _ x y => a4 (by rw [Nat.testBit_and, Nat.testBit_and, x, y, b65]; rfl), fun z => absurd z k6, fun z => absurd z k3⟩
/-! iteration -/
def so_it (G : so_S → so_S) (t : so_S) : Nat → so_S
  | 0 => t
  | q + 1 => G (so_it G t q)
theorem so_it_fix {G : so_S → so_S} {t : so_S} {q : Nat} (h : G (so_it G t q) = so_it G t q) : ∀ d, so_it G t (q + d) = so_it G t q := by
  intro d
  induction d with
  | zero => rfl
  | succ d ih =>
    show G (so_it G t (q + d)) = _
    rw [ih, h]
theorem so_it_one {G : so_S → so_S} {t : so_S} {q r : Nat} (h : G (so_it G t q) = so_it G t q) (g : G (so_it G t r) = so_it G t r) : so_it G t q = so_it G t r := by
  rcases Nat.le_total q r with z | z
  · have := so_it_fix h (r - q)
    rw [Nat.add_sub_cancel' z] at this
    exact this.symm
  · have := so_it_fix g (q - r)
    rw [Nat.add_sub_cancel' z] at this
    exact this
end
section
/-! ===== the range of the masks, the number of facts, the fixed point ===== -/
def so_ms (L a : Nat) : Prop := ∀ b, a.testBit b = true → b < L ∨ b = 16
def so_R (n L : Nat) (t : so_S) : Prop := so_01 t ∧ (∀ i, n ≤ i → t.1 i = 0 ∧ t.2.1 i = 0) ∧ (∀ l, L ≤ l → t.2.2 l = 0) ∧ (∀ i, so_ms L (t.2.1 i)) ∧ (∀ l, so_ms L (t.2.2 l))
theorem so_ms_0 (L : Nat) : so_ms L 0 := fun b h => by rw [Nat.zero_testBit] at h; cases h
theorem so_ms_or {L a b : Nat} (h : so_ms L a) (g : so_ms L b) : so_ms L (a ||| b) := fun i hi => by
  rw [Nat.testBit_or, Bool.or_eq_true] at hi
  exact hi.elim (h i) (g i)
theorem so_ms_and {L a b : Nat} (h : so_ms L a) : so_ms L (a &&& b) := fun i hi => by
  rw [Nat.testBit_and, Bool.and_eq_true] at hi
  exact h i hi.1
theorem so_ms_pow {L l : Nat} (h : l < L ∨ l = 16) : so_ms L (2 ^ l) := fun i hi => by
  rw [Nat.testBit_two_pow, decide_eq_true_iff] at hi
  rw [← hi]; exact h
theorem so_ms_lt {L a : Nat} (hL : L ≤ 16) (h : so_ms L a) : a < 131072 := by
  have : a < 2 ^ 17 := Nat.lt_pow_two_of_testBit a (fun i hi => by
    cases e : a.testBit i with
    | false => rfl
    | true => have := h i e; omega)
  omega
theorem so_R_lv {n L i : Nat} {t : so_S} (R : so_R n L t) (hi : i < n) : so_R n L (so_lv t i) := by
  obtain ⟨r1, r2, r3, r4, r5⟩ := R
  refine ⟨so_lv_01 r1 i, fun j hj => ⟨?_, (r2 j hj).2⟩, r3, r4, r5⟩
  show tr_put t.1 i 1 j = 0
  rw [tr_put_n t.1 1 (show j ≠ i by omega)]
  exact (r2 j hj).1
theorem so_R_fl {n L i m : Nat} {t : so_S} (R : so_R n L t) (hi : i < n) (hm : so_ms L m) : so_R n L (so_fl t i m) := by
  obtain ⟨r1, r2, r3, r4, r5⟩ := R
  refine ⟨r1, fun j hj => ⟨(r2 j hj).1, ?_⟩, r3, fun j => ?_, r5⟩
  · show tr_put t.2.1 i (t.2.1 i ||| m) j = 0
    rw [tr_put_n t.2.1 _ (show j ≠ i by omega)]
    exact (r2 j hj).2
  · show so_ms L (tr_put t.2.1 i (t.2.1 i ||| m) j)
    by_cases z : j = i
    · rw [z, tr_put_s]; exact so_ms_or (r4 i) hm
    · rw [tr_put_n t.2.1 _ z]; exact r4 j
theorem so_R_pa {n L l m : Nat} {t : so_S} (R : so_R n L t) (hl : l < L) (hm : so_ms L m) : so_R n L (so_pa t l m) := by
  obtain ⟨r1, r2, r3, r4, r5⟩ := R
  refine ⟨r1, r2, fun j hj => ?_, r4, fun j => ?_⟩
  · show tr_put t.2.2 l (t.2.2 l ||| m) j = 0
    rw [tr_put_n t.2.2 _ (show j ≠ l by omega)]
    exact r3 j hj
  · show so_ms L (tr_put t.2.2 l (t.2.2 l ||| m) j)
    by_cases z : j = l
    · rw [z, tr_put_s]; exact so_ms_or (r5 l) hm
    · rw [tr_put_n t.2.2 _ z]; exact r5 j
/-- what the tree must give: binders, lambda numbers and bodies in range -/
def so_T (K e bl lc bd : Nat → Nat) (L n : Nat) : Prop := tr_T K e n ∧ n ≤ 48 ∧ L ≤ 16 ∧ (∀ m, m < n → K m ≤ 6) ∧ (∀ m, m < n → K m = 0 → bl m < L) ∧ (∀ m, m < n → K m = 2 → lc m < L) ∧ (∀ l, l < L → bd l < n)
theorem so_R_lp {n L c0 c1 m : Nat} {bd : Nat → Nat} {t : so_S} (R : so_R n L t) (hm : m < n) (hb : ∀ l, l < L → bd l < n) : ∀ l, l ≤ L → so_R n L (so_lp c0 c1 m bd t l) := by
  intro l
  induction l with
  | zero => intro _; exact R
  | succ l ih =>
    intro hl
    have r := ih (by omega)
    show so_R n L (so_st c0 c1 m bd (so_lp c0 c1 m bd t l) l)
    unfold so_st
    by_cases z : ((so_lp c0 c1 m bd t l).2.1 c0).testBit l = true
    · rw [if_pos z]
      exact so_R_fl (so_R_pa (so_R_lv r (hb l (by omega))) (by omega) (r.2.2.2.1 c1)) hm (r.2.2.2.1 _)
    · rw [if_neg z]; exact r
section
variable {K e bl lc bd : Nat → Nat} {L n : Nat}
theorem so_R_g (T : so_T K e bl lc bd L n) {t : so_S} {m : Nat} (R : so_R n L t) (hm : m < n) : so_R n L (so_g K e bl lc bd L t m) := by
  obtain ⟨T1, T2, T3, T4, T5, T6, T7⟩ := T
  have m4 := R.2.2.2.1
  have m5 := R.2.2.2.2
  unfold so_g
  by_cases k0 : K m = 0
  · rw [if_pos k0]; exact so_R_fl R hm (m5 _)
  rw [if_neg k0]
  by_cases k1 : K m = 1
  · rw [if_pos k1]; exact so_R_fl R hm (so_ms_pow (l := 16) (Or.inr rfl))
  rw [if_neg k1]
  by_cases k2 : K m = 2
  · rw [if_pos k2]; exact so_R_fl R hm (so_ms_pow (Or.inl (T6 m hm k2)))
  rw [if_neg k2]
  by_cases k6 : K m = 6
  · obtain ⟨a1, a2, a3, a4, a5, _⟩ := tr_k6 T1 hm k6
    rw [if_pos k6]
    by_cases z : (t.2.1 (m + 1)).testBit 16 = true
    · rw [if_pos z]
      exact so_R_fl (so_R_lv (so_R_lv (so_R_lv R a1) a3) a5) hm (so_ms_or (m4 _) (m4 _))
    · rw [if_neg z]; exact so_R_lv R a1
  rw [if_neg k6]
  obtain ⟨a1, a2, a3, _⟩ := tr_k3 T1 hm (by omega) k6
  have r2 := so_R_lv (so_R_lv R a1) a3
  by_cases k3 : K m = 3
  · rw [if_pos k3]
    by_cases z : t.2.1 (e (m + 1)) = 0
    · rw [if_pos z]; exact r2
    · rw [if_neg z]; exact so_R_lp r2 hm T7 L (Nat.le_refl L)
  rw [if_neg k3]
  exact so_R_fl r2 hm (so_ms_and (so_ms_and (m4 _)))
theorem so_R_ps (T : so_T K e bl lc bd L n) {t : so_S} (R : so_R n L t) : ∀ i, i ≤ n → so_R n L (so_ps K e bl lc bd L t i) := by
  intro i
  induction i with
  | zero => intro _; exact R
  | succ i ih =>
    intro hi
    have r := ih (by omega)
    show so_R n L (if (so_ps K e bl lc bd L t i).1 i = 1 then so_g K e bl lc bd L (so_ps K e bl lc bd L t i) i else so_ps K e bl lc bd L t i)
    by_cases z : (so_ps K e bl lc bd L t i).1 i = 1
    · rw [if_pos z]; exact so_R_g T r (by omega)
    · rw [if_neg z]; exact r
end
/-! the number of facts -/
def so_pc (a : Nat) : Nat := tr_sum (fun b => if a.testBit b = true then 1 else 0) 17
def so_mu (n : Nat) (t : so_S) : Nat := tr_sum (fun i => t.1 i + so_pc (t.2.1 i)) n + tr_sum (fun l => so_pc (t.2.2 l)) 16
theorem tr_sum_bd {f : Nat → Nat} {c : Nat} : ∀ n, (∀ i, i < n → f i ≤ c) → tr_sum f n ≤ c * n := by
  intro n
  induction n with
  | zero => intro _; exact Nat.zero_le _
  | succ n ih =>
    intro h
    have h1 := ih (fun i hi => h i (by omega))
    have h2 := h n (by omega)
    show tr_sum f n + f n ≤ c * (n + 1)
    rw [Nat.mul_succ]
    omega
theorem so_pc_17 (a : Nat) : so_pc a ≤ 17 := by
  have := tr_sum_bd (f := fun b => if a.testBit b = true then 1 else 0) (c := 1) 17 (fun i _ => by
    by_cases z : a.testBit i = true
    · rw [if_pos z]; exact Nat.le_refl _
    · rw [if_neg z]; exact Nat.zero_le _)
  show tr_sum _ 17 ≤ 17
  omega
theorem so_pc_le {a b : Nat} (h : so_sub a b) : so_pc a ≤ so_pc b := by
  refine tr_sum_le 17 (fun i _ => ?_)
  by_cases z : a.testBit i = true
  · rw [if_pos z, if_pos (so_sub_bit.mp h i z)]; exact Nat.le_refl _
  · rw [if_neg z]; exact Nat.zero_le _
theorem so_pc_eq {L a b : Nat} (hL : L ≤ 16) (h : so_sub a b) (m : so_ms L b) (e : so_pc a = so_pc b) : a = b := by
  refine so_sub_a h (so_sub_bit.mpr (fun i hi => ?_))
  have hi17 : i < 17 := by have := m i hi; omega
  have := tr_sum_same 17 (fun i _ => by
    show (if a.testBit i = true then 1 else 0) ≤ (if b.testBit i = true then 1 else 0)
    by_cases z : a.testBit i = true
    · rw [if_pos z, if_pos (so_sub_bit.mp h i z)]; exact Nat.le_refl _
    · rw [if_neg z]; exact Nat.zero_le _) e i hi17
  have this' : (if a.testBit i = true then 1 else 0) = (if b.testBit i = true then 1 else 0) := this
  rw [if_pos hi] at this'
  by_cases z : a.testBit i = true
  · exact z
  · rw [if_neg z] at this'; omega
theorem so_mu_bd {n L : Nat} {t : so_S} (hn : n ≤ 48) (R : so_R n L t) : so_mu n t ≤ 1136 := by
  have h1 := tr_sum_bd (f := fun i => t.1 i + so_pc (t.2.1 i)) (c := 18) n (fun i _ => by
    have := R.1 i
    have := so_pc_17 (t.2.1 i)
    show t.1 i + so_pc (t.2.1 i) ≤ 18
    omega)
  have h2 := tr_sum_bd (f := fun l => so_pc (t.2.2 l)) (c := 17) 16 (fun i _ => so_pc_17 _)
  show tr_sum _ n + tr_sum _ 16 ≤ 1136
  omega
theorem so_eq {n L : Nat} {t u : so_S} (hL : L ≤ 16) (R : so_R n L t) (R' : so_R n L u) (h1 : ∀ i, i < n → t.1 i = u.1 i ∧ t.2.1 i = u.2.1 i) (h2 : ∀ l, l < 16 → t.2.2 l = u.2.2 l) : t = u := by
  obtain ⟨a, b, c⟩ := t
  obtain ⟨a', b', c'⟩ := u
  have e1 : a = a' := funext fun i => by
    rcases Nat.lt_or_ge i n with q | q
    · exact (h1 i q).1
    · exact (R.2.1 i q).1.trans (R'.2.1 i q).1.symm
  have e2 : b = b' := funext fun i => by
    rcases Nat.lt_or_ge i n with q | q
    · exact (h1 i q).2
    · exact (R.2.1 i q).2.trans (R'.2.1 i q).2.symm
  have e3 : c = c' := funext fun l => by
    rcases Nat.lt_or_ge l 16 with q | q
    · exact h2 l q
    · exact (R.2.2.1 l (by omega)).trans (R'.2.2.1 l (by omega)).symm
  rw [e1, e2, e3]
theorem so_mu_lt {n L : Nat} {t u : so_S} (hL : L ≤ 16) (R : so_R n L t) (R' : so_R n L u) (h : so_le t u) (ne : u ≠ t) : so_mu n t < so_mu n u := by
  have p1 : ∀ i, i < n → t.1 i + so_pc (t.2.1 i) ≤ u.1 i + so_pc (u.2.1 i) := fun i _ => Nat.add_le_add (h i).1 (so_pc_le (h i).2.1)
  have p2 : ∀ l, l < 16 → so_pc (t.2.2 l) ≤ so_pc (u.2.2 l) := fun l _ => so_pc_le (h l).2.2
  have s1 := tr_sum_le (f := fun i => t.1 i + so_pc (t.2.1 i)) (g := fun i => u.1 i + so_pc (u.2.1 i)) n p1
  have s2 := tr_sum_le (f := fun l => so_pc (t.2.2 l)) (g := fun l => so_pc (u.2.2 l)) 16 p2
  rcases Nat.lt_or_ge (so_mu n t) (so_mu n u) with q | q
  · exact q
  · have q' : tr_sum (fun i => u.1 i + so_pc (u.2.1 i)) n + tr_sum (fun l => so_pc (u.2.2 l)) 16 ≤ tr_sum (fun i => t.1 i + so_pc (t.2.1 i)) n + tr_sum (fun l => so_pc (t.2.2 l)) 16 := q
    have e1 := tr_sum_same n p1 (by omega)
    have e2 := tr_sum_same 16 p2 (by omega)
    refine absurd (so_eq hL R R' (fun i hi => ?_) (fun l hl => so_pc_eq hL (h l).2.2 (R'.2.2.2.2 l) (e2 l hl))).symm ne
    have e := e1 i hi
    have a1 := (h i).1
    have a2 := so_pc_le (h i).2.1
    have e' : t.1 i + so_pc (t.2.1 i) = u.1 i + so_pc (u.2.1 i) := e
    exact ⟨by omega, so_pc_eq hL (h i).2.1 (R'.2.2.2.1 i) (by omega)⟩
/-- the sum that the reference takes -/
def so_V (n : Nat) (t : so_S) : Nat := tr_sum (fun i => t.2.1 i) n + tr_sum (fun l => t.2.2 l) 16 + tr_sum (fun i => t.1 i) n
theorem so_V_eq {n L : Nat} {t u : so_S} (hL : L ≤ 16) (R : so_R n L t) (R' : so_R n L u) (h : so_le t u) (e : so_V n t = so_V n u) : u = t := by
  have p1 : ∀ i, i < n → t.2.1 i ≤ u.2.1 i := fun i _ => so_sub_le (h i).2.1
  have p2 : ∀ l, l < 16 → t.2.2 l ≤ u.2.2 l := fun l _ => so_sub_le (h l).2.2
  have p3 : ∀ i, i < n → t.1 i ≤ u.1 i := fun i _ => (h i).1
  have s1 := tr_sum_le (f := fun i => t.2.1 i) (g := fun i => u.2.1 i) n p1
  have s2 := tr_sum_le (f := fun i => t.2.2 i) (g := fun i => u.2.2 i) 16 p2
  have s3 := tr_sum_le (f := fun i => t.1 i) (g := fun i => u.1 i) n p3
  have e' : tr_sum (fun i => t.2.1 i) n + tr_sum (fun l => t.2.2 l) 16 + tr_sum (fun i => t.1 i) n = tr_sum (fun i => u.2.1 i) n + tr_sum (fun l => u.2.2 l) 16 + tr_sum (fun i => u.1 i) n := e
  have e1 := tr_sum_same (f := fun i => t.2.1 i) (g := fun i => u.2.1 i) n p1 (by omega)
  have e2 := tr_sum_same (f := fun i => t.2.2 i) (g := fun i => u.2.2 i) 16 p2 (by omega)
  have e3 := tr_sum_same (f := fun i => t.1 i) (g := fun i => u.1 i) n p3 (by omega)
  exact (so_eq hL R R' (fun i hi => ⟨e3 i hi, e1 i hi⟩) (fun l hl => e2 l hl)).symm
/-! the fixed point -/
def so_t0 : so_S := ((fun i => if i = 0 then 1 else 0), (fun _ => 0), (fun _ => 0))
def so_G (K e bl lc bd : Nat → Nat) (L n : Nat) (t : so_S) : so_S := so_ps K e bl lc bd L t n
def so_sol (K e bl lc bd : Nat → Nat) (L n : Nat) : so_S := so_it (so_G K e bl lc bd L n) so_t0 1200
theorem so_R_0 {n L : Nat} (hn : 0 < n) : so_R n L so_t0 := by
  refine ⟨fun i => ?_, fun i hi => ⟨if_neg (by omega), rfl⟩, fun _ _ => rfl, fun _ => so_ms_0 L, fun _ => so_ms_0 L⟩
  show (if i = 0 then 1 else 0) ≤ 1
  by_cases z : i = 0
  · rw [if_pos z]; exact Nat.le_refl _
  · rw [if_neg z]; exact Nat.zero_le _
section
variable {K e bl lc bd : Nat → Nat} {L n : Nat}
theorem so_R_it (T : so_T K e bl lc bd L n) (hn : 0 < n) : ∀ q, so_R n L (so_it (so_G K e bl lc bd L n) so_t0 q) := by
  intro q
  induction q with
  | zero => exact so_R_0 hn
  | succ q ih => exact so_R_ps T ih n (Nat.le_refl n)
theorem so_it_mu (T : so_T K e bl lc bd L n) (hn : 0 < n) : ∀ q, (∀ j, j < q → so_G K e bl lc bd L n (so_it (so_G K e bl lc bd L n) so_t0 j) ≠ so_it (so_G K e bl lc bd L n) so_t0 j) → q ≤ so_mu n (so_it (so_G K e bl lc bd L n) so_t0 q) := by
  intro q
  induction q with
  | zero => intro _; exact Nat.zero_le _
  | succ q ih =>
    intro h
    have h1 := ih (fun j hj => h j (by omega))
    have h2 := so_mu_lt T.2.2.1 (so_R_it T hn q) (so_R_it T hn (q + 1)) (so_ps_up K e bl lc bd L (so_R_it T hn q).1 n).1 (h q (by omega))
    omega
theorem so_it_bd (T : so_T K e bl lc bd L n) (hn : 0 < n) {q : Nat} (h : ∀ j, j < q → so_G K e bl lc bd L n (so_it (so_G K e bl lc bd L n) so_t0 j) ≠ so_it (so_G K e bl lc bd L n) so_t0 j) : q ≤ 1136 :=
  Nat.le_trans (so_it_mu T hn q h) (so_mu_bd T.2.1 (so_R_it T hn q))
theorem so_sol_fix (T : so_T K e bl lc bd L n) (hn : 0 < n) : so_G K e bl lc bd L n (so_sol K e bl lc bd L n) = so_sol K e bl lc bd L n := by
  by_cases z : ∃ j, j < 1137 ∧ so_G K e bl lc bd L n (so_it (so_G K e bl lc bd L n) so_t0 j) = so_it (so_G K e bl lc bd L n) so_t0 j
  · obtain ⟨j, hj, h⟩ := z
    have h1 := so_it_fix h (1200 - j)
    rw [Nat.add_sub_cancel' (show j ≤ 1200 by omega)] at h1
    show so_G K e bl lc bd L n (so_it (so_G K e bl lc bd L n) so_t0 1200) = so_it (so_G K e bl lc bd L n) so_t0 1200
    rw [h1, h]
  · have := so_it_bd T hn (q := 1137) (fun j hj y => z ⟨j, hj, y⟩)
    omega
/-- an iterate that is fixed is the solution -/
theorem so_sol_is (T : so_T K e bl lc bd L n) (hn : 0 < n) {q : Nat} (h : so_G K e bl lc bd L n (so_it (so_G K e bl lc bd L n) so_t0 q) = so_it (so_G K e bl lc bd L n) so_t0 q) : so_it (so_G K e bl lc bd L n) so_t0 q = so_sol K e bl lc bd L n :=
  so_it_one h (so_sol_fix T hn)
theorem so_sol_R (T : so_T K e bl lc bd L n) (hn : 0 < n) : so_R n L (so_sol K e bl lc bd L n) := so_R_it T hn 1200
theorem so_sol_Cl (T : so_T K e bl lc bd L n) (hn : 0 < n) : so_Cl K e bl lc bd L n (so_sol K e bl lc bd L n) := so_Cl_of (so_sol_R T hn).1 (so_sol_fix T hn)
theorem so_le_it (T : so_T K e bl lc bd L n) (hn : 0 < n) : ∀ q, so_le so_t0 (so_it (so_G K e bl lc bd L n) so_t0 q) := by
  intro q
  induction q with
  | zero => exact so_le_r _
  | succ q ih => exact so_le_t ih (so_ps_up K e bl lc bd L (so_R_it T hn q).1 n).1
theorem so_sol_0 (T : so_T K e bl lc bd L n) (hn : 0 < n) : (so_sol K e bl lc bd L n).1 0 = 1 := by
  have h1 := (so_le_it T hn 1200 0).1
  have h2 := (so_sol_R T hn).1 0
  have h3 : so_t0.1 0 = 1 := rfl
  rw [h3] at h1
  exact Nat.le_antisymm h2 h1
end
end
section
/-! ===== soundness: what a run meets lies in the solution ===== -/
/-- the value v of state s lies in the mask a -/
def so_in (lc : Nat → Nat) (s : ev_S) (v : ev_V) (a : Nat) : Prop := (∀ i, v = .inl i → a.testBit 16 = true) ∧ (∀ k, v = .inr k → a.testBit (lc (s.2.2.1 k)) = true)
/-- bindings under which node m is evaluated -/
def so_ES (K N lc : Nat → Nat) (sc : Nat → Nat → Bool) (n : Nat) (t : so_S) (m : Nat) (env : Nat → ev_V) (s : ev_S) : Prop := ∀ b, b < n → K b = 2 → sc m (lc b) = true → so_in lc s (env (N b)) (t.2.2 (lc b))
def so_SS (K N lc : Nat → Nat) (sc : Nat → Nat → Bool) (n : Nat) (t : so_S) (s : ev_S) : Prop := ∀ k, k < s.2.1 → so_ES K N lc sc n t (s.2.2.1 k) (s.2.2.2.1 k) s
def so_SP (K N lc : Nat → Nat) (sc : Nat → Nat → Bool) (n : Nat) (t : so_S) (m : Nat) (env : Nat → ev_V) (s : ev_S) : Prop := so_SS K N lc sc n t s ∧ so_ES K N lc sc n t m env s ∧ t.1 m = 1
def so_SQ (K N lc : Nat → Nat) (sc : Nat → Nat → Bool) (n : Nat) (t : so_S) (m : Nat) (r : ev_R) (s : ev_S) : Prop := so_SS K N lc sc n t s ∧ ∀ v, r = .inl v → so_in lc s v (t.2.1 m)
/-- what the tree gives: scopes of children, bodies, binders -/
def so_B (K e N ix bl lc bd : Nat → Nat) (sc : Nat → Nat → Bool) (n L : Nat) : Prop :=
  (∀ m, m < n → 3 ≤ K m → ∀ l, sc (m + 1) l = sc m l ∧ sc (e (m + 1)) l = sc m l ∧ (K m = 6 → sc (e (e (m + 1))) l = sc m l)) ∧
  (∀ m, m < n → K m = 2 → ∀ l, sc (m + 1) l = true → sc m l = true ∨ l = lc m) ∧
  (∀ m, m < n → K m = 2 → bd (lc m) = m + 1 ∧ lc m < L) ∧
  (∀ m, m < n → K m = 0 → ∃ b, b < n ∧ K b = 2 ∧ sc m (lc b) = true ∧ bl m = lc b ∧ ix m = N b) ∧
  (∀ m, m < n → ∀ b, b < n → K b = 2 → sc m (lc b) = true → N b < N m) ∧
  (∀ a b, a < n → b < n → K a = 2 → K b = 2 → lc a = lc b → a = b)
theorem so_in_sub {lc : Nat → Nat} {s : ev_S} {v : ev_V} {a b : Nat} (h : so_in lc s v a) (g : so_sub a b) : so_in lc s v b := ⟨fun i e => so_sub_bit.mp g _ (h.1 i e), fun k e => so_sub_bit.mp g _ (h.2 k e)⟩
theorem so_in_up {lc : Nat → Nat} {s s' : ev_S} {v : ev_V} {a : Nat} (h : so_in lc s v a) (x : ev_X s s') (o : ev_ok s.2.1 v) : so_in lc s' v a := ⟨h.1, fun k e => by rw [(x.2.2 k (o k e)).1]; exact h.2 k e⟩
theorem so_in_ne {lc : Nat → Nat} {s : ev_S} {v : ev_V} {a : Nat} (h : so_in lc s v a) : a ≠ 0 := by
  intro z
  subst z
  rcases v with i | k
  · have := h.1 i rfl; rw [Nat.zero_testBit] at this; cases this
  · have := h.2 k rfl; rw [Nat.zero_testBit] at this; cases this
section
variable {K e N ix bl lc bd : Nat → Nat} {sc : Nat → Nat → Bool} {bm : Nat → Int32} {op : Nat → Int32} {cl cm n L : Nat} {t : so_S}
theorem so_ES_up (B : so_B K e N ix bl lc bd sc n L) {m m' : Nat} {env : Nat → ev_V} {s s' : ev_S} (h : so_ES K N lc sc n t m env s) (hm : m < n) (hs : ∀ l, sc m' l = sc m l) (x : ev_X s s') (E : ev_E N m env s) : so_ES K N lc sc n t m' env s' := fun b hb kb h1 => by
  rw [hs] at h1
  exact so_in_up (h b hb kb h1) x (E _ (B.2.2.2.2.1 m hm b hb kb h1))
theorem so_p_1 (B : so_B K e N ix bl lc bd sc n L) (C : so_Cl K e bl lc bd L n t) {f m : Nat} {env : Nat → ev_V} {s : ev_S} (P : ev_Pre K e N n cl cm (f + 1) env m s) (S : so_SP K N lc sc n t m env s) (k : 3 ≤ K m) : so_SP K N lc sc n t (m + 1) env s :=
  ⟨S.1, so_ES_up B S.2.1 P.1 (fun l => (B.1 m P.1 k l).1) (ev_X_r s) P.2.2.2, (C m P.1 S.2.2).2.2.2.1 k⟩
theorem so_p_2 (B : so_B K e N ix bl lc bd sc n L) (C : so_Cl K e bl lc bd L n t) {f m : Nat} {v : ev_V} {env : Nat → ev_V} {s s1 : ev_S} (P : ev_Pre K e N n cl cm (f + 1) env m s) (S : so_SP K N lc sc n t m env s) (k : 3 ≤ K m) (k6 : K m ≠ 6) (G : ev_Post K N n cl cm s (.inl v) s1) (q : so_SQ K N lc sc n t (m + 1) (.inl v) s1) : so_SP K N lc sc n t (e (m + 1)) env s1 :=
  ⟨q.1, so_ES_up B S.2.1 P.1 (fun l => (B.1 m P.1 k l).2.1) G.2.1 P.2.2.2, (C m P.1 S.2.2).2.2.2.2.1 k k6⟩
theorem so_p_br (B : so_B K e N ix bl lc bd sc n L) (C : so_Cl K e bl lc bd L n t) {f m : Nat} {i : Int32} {env : Nat → ev_V} {s s1 : ev_S} (P : ev_Pre K e N n cl cm (f + 1) env m s) (S : so_SP K N lc sc n t m env s) (k : K m = 6) (G : ev_Post K N n cl cm s (.inl (.inl i)) s1) (q : so_SQ K N lc sc n t (m + 1) (.inl (.inl i)) s1) : so_SP K N lc sc n t (if i = 0 then e (m + 1) else e (e (m + 1))) env s1 := by
  have h1 := (q.2 _ rfl).1 i rfl
  obtain ⟨c1, c2, _, _⟩ := (C m P.1 S.2.2).2.2.2.2.2.2.1 k h1
  by_cases z : i = 0
  · rw [if_pos z]
    exact ⟨q.1, so_ES_up B S.2.1 P.1 (fun l => (B.1 m P.1 (by omega) l).2.1) G.2.1 P.2.2.2, c1⟩
  · rw [if_neg z]
    exact ⟨q.1, so_ES_up B S.2.1 P.1 (fun l => (B.1 m P.1 (by omega) l).2.2 k) G.2.1 P.2.2.2, c2⟩
/-- what is known at a call -/
theorem so_at_app (B : so_B K e N ix bl lc bd sc n L) (C : so_Cl K e bl lc bd L n t) {f m k : Nat} {w : ev_V} {env : Nat → ev_V} {s s1 s2 : ev_S} (P : ev_Pre K e N n cl cm (f + 1) env m s) (S : so_SP K N lc sc n t m env s) (k3 : K m = 3) (G1 : ev_Post K N n cl cm s (.inl (.inr k)) s1) (q1 : so_SQ K N lc sc n t (m + 1) (.inl (.inr k)) s1) (G2 : ev_Post K N n cl cm s1 (.inl w) s2) (q2 : so_SQ K N lc sc n t (e (m + 1)) (.inl w) s2) : k < s2.2.1 ∧ s2.2.2.1 k < n ∧ K (s2.2.2.1 k) = 2 ∧ lc (s2.2.2.1 k) < L ∧ (t.2.1 (m + 1)).testBit (lc (s2.2.2.1 k)) = true ∧ t.1 (s2.2.2.1 k + 1) = 1 ∧ so_sub (t.2.1 (e (m + 1))) (t.2.2 (lc (s2.2.2.1 k))) ∧ so_sub (t.2.1 (s2.2.2.1 k + 1)) (t.2.1 m) := by
  have hk : k < s1.2.1 := G1.2.2.1 _ rfl k rfl
  have hk2 : k < s2.2.1 := Nat.lt_of_lt_of_le hk G2.2.1.2.1
  obtain ⟨b1, b2, _⟩ := G2.1.2.2 k hk2
  obtain ⟨d1, d2⟩ := B.2.2.1 _ b1 b2
  have h1 := (q1.2 _ rfl).2 k rfl
  rw [← (G2.2.1.2.2 k hk).1] at h1
  have hne := so_in_ne (q2.2 _ rfl)
  obtain ⟨e1, e2, e3⟩ := (C m P.1 S.2.2).2.2.2.2.2.2.2 k3 hne _ d2 h1
  rw [d1] at e1 e3
  exact ⟨hk2, b1, b2, d2, h1, e1, e2, e3⟩
theorem so_p_3 (B : so_B K e N ix bl lc bd sc n L) (C : so_Cl K e bl lc bd L n t) {f m k : Nat} {w : ev_V} {env : Nat → ev_V} {s s1 s2 : ev_S} (P : ev_Pre K e N n cl cm (f + 1) env m s) (S : so_SP K N lc sc n t m env s) (k3 : K m = 3) (G1 : ev_Post K N n cl cm s (.inl (.inr k)) s1) (q1 : so_SQ K N lc sc n t (m + 1) (.inl (.inr k)) s1) (G2 : ev_Post K N n cl cm s1 (.inl w) s2) (q2 : so_SQ K N lc sc n t (e (m + 1)) (.inl w) s2) : so_SP K N lc sc n t (s2.2.2.1 k + 1) (ev_env N k w s2) (ev_call bm m k s2) := by
  obtain ⟨a1, a2, a3, a4, a5, a6, a7, a8⟩ := so_at_app B C P S k3 G1 q1 G2 q2
  refine ⟨q2.1, fun b hb kb h => ?_, a6⟩
  show so_in lc s2 (if N b = N (s2.2.2.1 k) then w else s2.2.2.2.1 k (N b)) (t.2.2 (lc b))
  rcases B.2.1 _ a2 a3 _ h with z | z
  · have := B.2.2.2.2.1 _ a2 b hb kb z
    rw [if_neg (by omega)]
    exact q2.1 k a1 b hb kb z
  · have hz := B.2.2.2.2.2 _ _ hb a2 kb a3 z
    subst hz
    rw [if_pos rfl]
    exact so_in_sub (q2.2 _ rfl) a7
theorem so_q_err {s : ev_S} {m : Nat} {x : Nat × Nat} (h : so_SS K N lc sc n t s) : so_SQ K N lc sc n t m (.inr x) s := ⟨h, fun _ z => nomatch z⟩
theorem so_q_var (B : so_B K e N ix bl lc bd sc n L) (C : so_Cl K e bl lc bd L n t) {f m : Nat} {env : Nat → ev_V} {s : ev_S} (P : ev_Pre K e N n cl cm (f + 1) env m s) (S : so_SP K N lc sc n t m env s) (k : K m = 0) : so_SQ K N lc sc n t m (.inl (env (ix m))) s := by
  refine ⟨S.1, fun v h => ?_⟩
  cases h
  obtain ⟨b, b1, b2, b3, b4, b5⟩ := B.2.2.2.1 m P.1 k
  have h1 := (C m P.1 S.2.2).1 k
  rw [b4] at h1
  rw [b5]
  exact so_in_sub (S.2.1 b b1 b2 b3) h1
theorem so_q_num (C : so_Cl K e bl lc bd L n t) {f m : Nat} {i : Int32} {env : Nat → ev_V} {s : ev_S} (P : ev_Pre K e N n cl cm (f + 1) env m s) (S : so_SP K N lc sc n t m env s) (k : K m = 1) : so_SQ K N lc sc n t m (.inl (.inl i)) s := by
  refine ⟨S.1, fun v h => ?_⟩
  cases h
  exact ⟨fun _ _ => (C m P.1 S.2.2).2.1 k, fun _ z => nomatch z⟩
theorem so_q_lam (B : so_B K e N ix bl lc bd sc n L) (C : so_Cl K e bl lc bd L n t) {f m : Nat} {env : Nat → ev_V} {s : ev_S} (P : ev_Pre K e N n cl cm (f + 1) env m s) (S : so_SP K N lc sc n t m env s) (k : K m = 2) : so_SQ K N lc sc n t m (.inl (.inr s.2.1)) (ev_clo m env s) := by
  have X := ev_clo_X m env s
  refine ⟨fun j hj => ?_, fun v h => ?_⟩
  · have hj' : j < s.2.1 + 1 := hj
    show so_ES K N lc sc n t (if j = s.2.1 then m else s.2.2.1 j) (if j = s.2.1 then env else s.2.2.2.1 j) (ev_clo m env s)
    by_cases z : j = s.2.1
    · rw [if_pos z, if_pos z]
      exact so_ES_up B S.2.1 P.1 (fun _ => rfl) X P.2.2.2
    · rw [if_neg z, if_neg z]
      obtain ⟨w1, w2, w3⟩ := P.2.2.1.2.2 j (by omega)
      exact so_ES_up B (S.1 j (by omega)) w1 (fun _ => rfl) X w3
  · cases h
    refine ⟨fun _ z => (nomatch z), fun j z => ?_⟩
    cases z
    show (t.2.1 m).testBit (lc (if s.2.1 = s.2.1 then m else s.2.2.1 s.2.1)) = true
    rw [if_pos rfl]
    exact (C m P.1 S.2.2).2.2.1 k
theorem so_q_br (C : so_Cl K e bl lc bd L n t) {f m : Nat} {i : Int32} {r : ev_R} {env : Nat → ev_V} {s s1 s2 : ev_S} (P : ev_Pre K e N n cl cm (f + 1) env m s) (S : so_SP K N lc sc n t m env s) (k : K m = 6) (q1 : so_SQ K N lc sc n t (m + 1) (.inl (.inl i)) s1) (q2 : so_SQ K N lc sc n t (if i = 0 then e (m + 1) else e (e (m + 1))) r s2) : so_SQ K N lc sc n t m r s2 := by
  obtain ⟨_, _, c3, c4⟩ := (C m P.1 S.2.2).2.2.2.2.2.2.1 k ((q1.2 _ rfl).1 i rfl)
  refine ⟨q2.1, fun v h => so_in_sub (q2.2 v h) ?_⟩
  by_cases z : i = 0
  · rw [if_pos z]; exact c3
  · rw [if_neg z]; exact c4
theorem so_q_app (B : so_B K e N ix bl lc bd sc n L) (C : so_Cl K e bl lc bd L n t) {f m k : Nat} {w : ev_V} {r : ev_R} {env : Nat → ev_V} {s s1 s2 s3 : ev_S} (P : ev_Pre K e N n cl cm (f + 1) env m s) (S : so_SP K N lc sc n t m env s) (k3 : K m = 3) (G1 : ev_Post K N n cl cm s (.inl (.inr k)) s1) (q1 : so_SQ K N lc sc n t (m + 1) (.inl (.inr k)) s1) (G2 : ev_Post K N n cl cm s1 (.inl w) s2) (q2 : so_SQ K N lc sc n t (e (m + 1)) (.inl w) s2) (q3 : so_SQ K N lc sc n t (s2.2.2.1 k + 1) r s3) : so_SQ K N lc sc n t m r s3 := by
  obtain ⟨a1, a2, a3, a4, a5, a6, a7, a8⟩ := so_at_app B C P S k3 G1 q1 G2 q2
  exact ⟨q3.1, fun v h => so_in_sub (q3.2 v h) a8⟩
theorem so_q_sum (C : so_Cl K e bl lc bd L n t) {f m : Nat} {i j x : Int32} {env : Nat → ev_V} {s s1 s2 : ev_S} (P : ev_Pre K e N n cl cm (f + 1) env m s) (S : so_SP K N lc sc n t m env s) (k : K m = 4 ∨ K m = 5) (G1 : ev_Post K N n cl cm s (.inl (.inl i)) s1) (q1 : so_SQ K N lc sc n t (m + 1) (.inl (.inl i)) s1) (G2 : ev_Post K N n cl cm s1 (.inl (.inl j)) s2) (q2 : so_SQ K N lc sc n t (e (m + 1)) (.inl (.inl j)) s2) : so_SQ K N lc sc n t m (.inl (.inl x)) s2 := by
  refine ⟨q2.1, fun v h => ?_⟩
  cases h
  exact ⟨fun _ _ => (C m P.1 S.2.2).2.2.2.2.2.1 (by omega) (by omega) ((q1.2 _ rfl).1 i rfl) ((q2.2 _ rfl).1 j rfl), fun _ z => nomatch z⟩
end

theorem ev_ind3 (K e N ix bl lc bd : Nat → Nat) (sc : Nat → Nat → Bool) (op bm : Nat → Int32) (cl cm n L : Nat) (t : so_S) (T : ev_T K e N ix n) (B : so_B K e N ix bl lc bd sc n L) (C : so_Cl K e bl lc bd L n t)
    (M : Nat → (Nat → ev_V) → Nat → ev_S → ev_R → ev_S → Prop)
    (cvar : ∀ f env m s, ev_Pre K e N n cl cm (f + 1) env m s → so_SP K N lc sc n t m env s → K m = 0 → so_SQ K N lc sc n t m (.inl (env (ix m))) s → M (f + 1) env m s (.inl (env (ix m))) s)
    (cnum : ∀ f env m s, ev_Pre K e N n cl cm (f + 1) env m s → so_SP K N lc sc n t m env s → K m = 1 → so_SQ K N lc sc n t m (.inl (.inl (op m))) s → M (f + 1) env m s (.inl (.inl (op m))) s)
    (clamF : ∀ f env m (s : ev_S), ev_Pre K e N n cl cm (f + 1) env m s → so_SP K N lc sc n t m env s → K m = 2 → s.2.1 = cm → so_SQ K N lc sc n t m (.inr (5, m)) s → M (f + 1) env m s (.inr (5, m)) s)
    (clam : ∀ f env m (s : ev_S), ev_Pre K e N n cl cm (f + 1) env m s → so_SP K N lc sc n t m env s → K m = 2 → s.2.1 ≠ cm → so_SQ K N lc sc n t m (.inl (.inr s.2.1)) (ev_clo m env s) → M (f + 1) env m s (.inl (.inr s.2.1)) (ev_clo m env s))
    (ce0 : ∀ f env m s x s1, ev_Pre K e N n cl cm (f + 1) env m s → so_SP K N lc sc n t m env s → 3 ≤ K m → ev_Pre K e N n cl cm f env (m + 1) s → so_SP K N lc sc n t (m + 1) env s → ev_Post K N n cl cm s (.inr x) s1 → so_SQ K N lc sc n t (m + 1) (.inr x) s1 → so_SQ K N lc sc n t m (.inr x) s1 → M f env (m + 1) s (.inr x) s1 → M (f + 1) env m s (.inr x) s1)
    (cifS : ∀ f env m s k s1, ev_Pre K e N n cl cm (f + 1) env m s → so_SP K N lc sc n t m env s → K m = 6 → ev_Pre K e N n cl cm f env (m + 1) s → so_SP K N lc sc n t (m + 1) env s → ev_Post K N n cl cm s (.inl (.inr k)) s1 → so_SQ K N lc sc n t (m + 1) (.inl (.inr k)) s1 → so_SQ K N lc sc n t m (.inr (3, m)) s1 → M f env (m + 1) s (.inl (.inr k)) s1 → M (f + 1) env m s (.inr (3, m)) s1)
    (cif : ∀ f env m s i s1 r s2, ev_Pre K e N n cl cm (f + 1) env m s → so_SP K N lc sc n t m env s → K m = 6 → ev_Pre K e N n cl cm f env (m + 1) s → so_SP K N lc sc n t (m + 1) env s → ev_Post K N n cl cm s (.inl (.inl i)) s1 → so_SQ K N lc sc n t (m + 1) (.inl (.inl i)) s1 → ev_Pre K e N n cl cm f env (if i = 0 then e (m + 1) else e (e (m + 1))) s1 → so_SP K N lc sc n t (if i = 0 then e (m + 1) else e (e (m + 1))) env s1 → ev_Post K N n cl cm s1 r s2 → so_SQ K N lc sc n t (if i = 0 then e (m + 1) else e (e (m + 1))) r s2 → so_SQ K N lc sc n t m r s2 → M f env (m + 1) s (.inl (.inl i)) s1 → M f env (if i = 0 then e (m + 1) else e (e (m + 1))) s1 r s2 → M (f + 1) env m s r s2)
    (ce1 : ∀ f env m s v s1 x s2, ev_Pre K e N n cl cm (f + 1) env m s → so_SP K N lc sc n t m env s → 3 ≤ K m → K m ≠ 6 → ev_Pre K e N n cl cm f env (m + 1) s → so_SP K N lc sc n t (m + 1) env s → ev_Post K N n cl cm s (.inl v) s1 → so_SQ K N lc sc n t (m + 1) (.inl v) s1 → ev_Pre K e N n cl cm f env (e (m + 1)) s1 → so_SP K N lc sc n t (e (m + 1)) env s1 → ev_Post K N n cl cm s1 (.inr x) s2 → so_SQ K N lc sc n t (e (m + 1)) (.inr x) s2 → so_SQ K N lc sc n t m (.inr x) s2 → M f env (m + 1) s (.inl v) s1 → M f env (e (m + 1)) s1 (.inr x) s2 → M (f + 1) env m s (.inr x) s2)
    (cappS : ∀ f env m s i s1 w s2, ev_Pre K e N n cl cm (f + 1) env m s → so_SP K N lc sc n t m env s → K m = 3 → ev_Pre K e N n cl cm f env (m + 1) s → so_SP K N lc sc n t (m + 1) env s → ev_Post K N n cl cm s (.inl (.inl i)) s1 → so_SQ K N lc sc n t (m + 1) (.inl (.inl i)) s1 → ev_Pre K e N n cl cm f env (e (m + 1)) s1 → so_SP K N lc sc n t (e (m + 1)) env s1 → ev_Post K N n cl cm s1 (.inl w) s2 → so_SQ K N lc sc n t (e (m + 1)) (.inl w) s2 → so_SQ K N lc sc n t m (.inr (3, m)) s2 → M f env (m + 1) s (.inl (.inl i)) s1 → M f env (e (m + 1)) s1 (.inl w) s2 → M (f + 1) env m s (.inr (3, m)) s2)
    (cappC : ∀ f env m s k s1 w (s2 : ev_S), ev_Pre K e N n cl cm (f + 1) env m s → so_SP K N lc sc n t m env s → K m = 3 → s2.1 = cl → ev_Pre K e N n cl cm f env (m + 1) s → so_SP K N lc sc n t (m + 1) env s → ev_Post K N n cl cm s (.inl (.inr k)) s1 → so_SQ K N lc sc n t (m + 1) (.inl (.inr k)) s1 → ev_Pre K e N n cl cm f env (e (m + 1)) s1 → so_SP K N lc sc n t (e (m + 1)) env s1 → ev_Post K N n cl cm s1 (.inl w) s2 → so_SQ K N lc sc n t (e (m + 1)) (.inl w) s2 → so_SQ K N lc sc n t m (.inr (4, m)) s2 → M f env (m + 1) s (.inl (.inr k)) s1 → M f env (e (m + 1)) s1 (.inl w) s2 → M (f + 1) env m s (.inr (4, m)) s2)
    (capp : ∀ f env m s k s1 w (s2 : ev_S) r s3, ev_Pre K e N n cl cm (f + 1) env m s → so_SP K N lc sc n t m env s → K m = 3 → s2.1 ≠ cl → ev_Pre K e N n cl cm f env (m + 1) s → so_SP K N lc sc n t (m + 1) env s → ev_Post K N n cl cm s (.inl (.inr k)) s1 → so_SQ K N lc sc n t (m + 1) (.inl (.inr k)) s1 → ev_Pre K e N n cl cm f env (e (m + 1)) s1 → so_SP K N lc sc n t (e (m + 1)) env s1 → ev_Post K N n cl cm s1 (.inl w) s2 → so_SQ K N lc sc n t (e (m + 1)) (.inl w) s2 → ev_Pre K e N n cl cm f (ev_env N k w s2) (s2.2.2.1 k + 1) (ev_call bm m k s2) → so_SP K N lc sc n t (s2.2.2.1 k + 1) (ev_env N k w s2) (ev_call bm m k s2) → ev_Post K N n cl cm (ev_call bm m k s2) r s3 → so_SQ K N lc sc n t (s2.2.2.1 k + 1) r s3 → so_SQ K N lc sc n t m r s3 → M f env (m + 1) s (.inl (.inr k)) s1 → M f env (e (m + 1)) s1 (.inl w) s2 → M f (ev_env N k w s2) (s2.2.2.1 k + 1) (ev_call bm m k s2) r s3 → M (f + 1) env m s r s3)
    (csum : ∀ f env m s i s1 j s2, ev_Pre K e N n cl cm (f + 1) env m s → so_SP K N lc sc n t m env s → (K m = 4 ∨ K m = 5) → ev_Pre K e N n cl cm f env (m + 1) s → so_SP K N lc sc n t (m + 1) env s → ev_Post K N n cl cm s (.inl (.inl i)) s1 → so_SQ K N lc sc n t (m + 1) (.inl (.inl i)) s1 → ev_Pre K e N n cl cm f env (e (m + 1)) s1 → so_SP K N lc sc n t (e (m + 1)) env s1 → ev_Post K N n cl cm s1 (.inl (.inl j)) s2 → so_SQ K N lc sc n t (e (m + 1)) (.inl (.inl j)) s2 → so_SQ K N lc sc n t m (.inl (.inl (if K m = 4 then i + j else i - j))) s2 → M f env (m + 1) s (.inl (.inl i)) s1 → M f env (e (m + 1)) s1 (.inl (.inl j)) s2 → M (f + 1) env m s (.inl (.inl (if K m = 4 then i + j else i - j))) s2)
    (csumS : ∀ f env m s v s1 w s2, ev_Pre K e N n cl cm (f + 1) env m s → so_SP K N lc sc n t m env s → (K m = 4 ∨ K m = 5) → ((∃ k, v = .inr k) ∨ (∃ k, w = .inr k)) → ev_Pre K e N n cl cm f env (m + 1) s → so_SP K N lc sc n t (m + 1) env s → ev_Post K N n cl cm s (.inl v) s1 → so_SQ K N lc sc n t (m + 1) (.inl v) s1 → ev_Pre K e N n cl cm f env (e (m + 1)) s1 → so_SP K N lc sc n t (e (m + 1)) env s1 → ev_Post K N n cl cm s1 (.inl w) s2 → so_SQ K N lc sc n t (e (m + 1)) (.inl w) s2 → so_SQ K N lc sc n t m (.inr (3, m)) s2 → M f env (m + 1) s (.inl v) s1 → M f env (e (m + 1)) s1 (.inl w) s2 → M (f + 1) env m s (.inr (3, m)) s2) :
    ∀ f env m s, ev_Pre K e N n cl cm f env m s → so_SP K N lc sc n t m env s → M f env m s (ev_al K e N ix op bm cl cm f env m s).1 (ev_al K e N ix op bm cl cm f env m s).2 ∧ so_SQ K N lc sc n t m (ev_al K e N ix op bm cl cm f env m s).1 (ev_al K e N ix op bm cl cm f env m s).2 := by
  intro f env m s P0 S0
  refine (ev_ind2 K e N ix op bm cl cm n T (fun f env m s r s' => so_SP K N lc sc n t m env s → M f env m s r s' ∧ so_SQ K N lc sc n t m r s') ?_ ?_ ?_ ?_ ?_ ?_ ?_ ?_ ?_ ?_ ?_ ?_ ?_ f env m s P0).1 S0
  · intro f env m s P k S
    have qq : so_SQ K N lc sc n t m (.inl (env (ix m))) s := so_q_var B C P S k
    exact ⟨cvar f env m s P S k qq, qq⟩
  · intro f env m s P k S
    have qq : so_SQ K N lc sc n t m (.inl (.inl (op m))) s := so_q_num C P S k
    exact ⟨cnum f env m s P S k qq, qq⟩
  · intro f env m s P k k2 S
    have qq : so_SQ K N lc sc n t m (.inr (5, m)) s := so_q_err S.1
    exact ⟨clamF f env m s P S k k2 qq, qq⟩
  · intro f env m s P k k2 S
    have qq : so_SQ K N lc sc n t m (.inl (.inr s.2.1)) (ev_clo m env s) := so_q_lam B C P S k
    exact ⟨clam f env m s P S k k2 qq, qq⟩
  · intro f env m s x s1 P k A1 G1 H1 S
    have S1 : so_SP K N lc sc n t (m + 1) env s := so_p_1 B C P S k
    obtain ⟨m1, q1⟩ := H1 S1
    have qq : so_SQ K N lc sc n t m (.inr x) s1 := so_q_err q1.1
    exact ⟨ce0 f env m s x s1 P S k A1 S1 G1 q1 qq m1, qq⟩
  · intro f env m s k s1 P ka A1 G1 H1 S
    have S1 : so_SP K N lc sc n t (m + 1) env s := so_p_1 B C P S (by omega)
    obtain ⟨m1, q1⟩ := H1 S1
    have qq : so_SQ K N lc sc n t m (.inr (3, m)) s1 := so_q_err q1.1
    exact ⟨cifS f env m s k s1 P S ka A1 S1 G1 q1 qq m1, qq⟩
  · intro f env m s i s1 r s2 P k A1 G1 A2 G2 H1 H2 S
    have S1 : so_SP K N lc sc n t (m + 1) env s := so_p_1 B C P S (by omega)
    obtain ⟨m1, q1⟩ := H1 S1
    have S2 : so_SP K N lc sc n t (if i = 0 then e (m + 1) else e (e (m + 1))) env s1 := so_p_br B C P S k G1 q1
    obtain ⟨m2, q2⟩ := H2 S2
    have qq : so_SQ K N lc sc n t m r s2 := so_q_br C P S k q1 q2
    exact ⟨cif f env m s i s1 r s2 P S k A1 S1 G1 q1 A2 S2 G2 q2 qq m1 m2, qq⟩
  · intro f env m s v s1 x s2 P k k2 A1 G1 A2 G2 H1 H2 S
    have S1 : so_SP K N lc sc n t (m + 1) env s := so_p_1 B C P S k
    obtain ⟨m1, q1⟩ := H1 S1
    have S2 : so_SP K N lc sc n t (e (m + 1)) env s1 := so_p_2 B C P S k k2 G1 q1
    obtain ⟨m2, q2⟩ := H2 S2
    have qq : so_SQ K N lc sc n t m (.inr x) s2 := so_q_err q2.1
    exact ⟨ce1 f env m s v s1 x s2 P S k k2 A1 S1 G1 q1 A2 S2 G2 q2 qq m1 m2, qq⟩
  · intro f env m s i s1 w s2 P k A1 G1 A2 G2 H1 H2 S
    have S1 : so_SP K N lc sc n t (m + 1) env s := so_p_1 B C P S (by omega)
    obtain ⟨m1, q1⟩ := H1 S1
    have S2 : so_SP K N lc sc n t (e (m + 1)) env s1 := so_p_2 B C P S (by omega) (by omega) G1 q1
    obtain ⟨m2, q2⟩ := H2 S2
    have qq : so_SQ K N lc sc n t m (.inr (3, m)) s2 := so_q_err q2.1
    exact ⟨cappS f env m s i s1 w s2 P S k A1 S1 G1 q1 A2 S2 G2 q2 qq m1 m2, qq⟩
  · intro f env m s k s1 w s2 P ka kb A1 G1 A2 G2 H1 H2 S
    have S1 : so_SP K N lc sc n t (m + 1) env s := so_p_1 B C P S (by omega)
    obtain ⟨m1, q1⟩ := H1 S1
    have S2 : so_SP K N lc sc n t (e (m + 1)) env s1 := so_p_2 B C P S (by omega) (by omega) G1 q1
    obtain ⟨m2, q2⟩ := H2 S2
    have qq : so_SQ K N lc sc n t m (.inr (4, m)) s2 := so_q_err q2.1
    exact ⟨cappC f env m s k s1 w s2 P S ka kb A1 S1 G1 q1 A2 S2 G2 q2 qq m1 m2, qq⟩
  · intro f env m s k s1 w s2 r s3 P ka kb A1 G1 A2 G2 A3 G3 H1 H2 H3 S
    have S1 : so_SP K N lc sc n t (m + 1) env s := so_p_1 B C P S (by omega)
    obtain ⟨m1, q1⟩ := H1 S1
    have S2 : so_SP K N lc sc n t (e (m + 1)) env s1 := so_p_2 B C P S (by omega) (by omega) G1 q1
    obtain ⟨m2, q2⟩ := H2 S2
    have S3 : so_SP K N lc sc n t (s2.2.2.1 k + 1) (ev_env N k w s2) (ev_call bm m k s2) := so_p_3 B C P S ka G1 q1 G2 q2
    obtain ⟨m3, q3⟩ := H3 S3
    have qq : so_SQ K N lc sc n t m r s3 := so_q_app B C P S ka G1 q1 G2 q2 q3
    exact ⟨capp f env m s k s1 w s2 r s3 P S ka kb A1 S1 G1 q1 A2 S2 G2 q2 A3 S3 G3 q3 qq m1 m2 m3, qq⟩
  · intro f env m s i s1 j s2 P k A1 G1 A2 G2 H1 H2 S
    have S1 : so_SP K N lc sc n t (m + 1) env s := so_p_1 B C P S (by omega)
    obtain ⟨m1, q1⟩ := H1 S1
    have S2 : so_SP K N lc sc n t (e (m + 1)) env s1 := so_p_2 B C P S (by omega) (by omega) G1 q1
    obtain ⟨m2, q2⟩ := H2 S2
    have qq : so_SQ K N lc sc n t m (.inl (.inl (if K m = 4 then i + j else i - j))) s2 := so_q_sum C P S k G1 q1 G2 q2
    exact ⟨csum f env m s i s1 j s2 P S k A1 S1 G1 q1 A2 S2 G2 q2 qq m1 m2, qq⟩
  · intro f env m s v s1 w s2 P k k2 A1 G1 A2 G2 H1 H2 S
    have S1 : so_SP K N lc sc n t (m + 1) env s := so_p_1 B C P S (by omega)
    obtain ⟨m1, q1⟩ := H1 S1
    have S2 : so_SP K N lc sc n t (e (m + 1)) env s1 := so_p_2 B C P S (by omega) (by omega) G1 q1
    obtain ⟨m2, q2⟩ := H2 S2
    have qq : so_SQ K N lc sc n t m (.inr (3, m)) s2 := so_q_err q2.1
    exact ⟨csumS f env m s v s1 w s2 P S k k2 A1 S1 G1 q1 A2 S2 G2 q2 qq m1 m2, qq⟩
end
section
/-! ===== a machine with frames and a stack, by its rules alone; first the walk over the tree ===== -/
/-- state of the evaluator, frame, bindings by frame, returns by frame, height, stack -/
abbrev am_S : Type := ev_S × Nat × (Nat → Nat → ev_V) × (Nat → Nat) × Nat × (Nat → ev_V)
def am_pw (W : Nat → ev_V) (w : Nat) (v : ev_V) : Nat → ev_V := fun j => if j = w then v else W j
def am_pf (F : Nat → Nat → ev_V) (f : Nat) (g : Nat → ev_V) : Nat → Nat → ev_V := fun j => if j = f then g else F j
theorem am_pw_s (W : Nat → ev_V) (w : Nat) (v : ev_V) : am_pw W w v w = v := if_pos rfl
theorem am_pw_n (W : Nat → ev_V) {w j : Nat} (v : ev_V) (h : j ≠ w) : am_pw W w v j = W j := if_neg h
theorem am_pf_s (F : Nat → Nat → ev_V) (f : Nat) (g : Nat → ev_V) : am_pf F f g f = g := if_pos rfl
theorem am_pf_n (F : Nat → Nat → ev_V) {f j : Nat} (g : Nat → ev_V) (h : j ≠ f) : am_pf F f g j = F j := if_neg h
/-- the rules: I b c a: with b steps to spend, from control c (begin a node, a node done) and state a, all goes well; J x s: an end x in state s is well -/
def am_R (K e N Lv ix : Nat → Nat) (op bm : Nat → Int32) (cl cm n : Nat) (I : Nat → Sum Nat Nat → am_S → Prop) (J : Nat × Nat → ev_S → Prop) : Prop :=
  (∀ b d c a, I b c a → I (b + d) c a) ∧
  (∀ b m s f F R w W, m < n → K m = 0 → f ≤ 48 → w < 294 → I b (.inr m) (s, f, F, R, w + 1, am_pw W w (F f (ix m))) → I (b + 1) (.inl m) (s, f, F, R, w, W)) ∧
  (∀ b m s f F R w W, m < n → K m = 1 → f ≤ 48 → w < 294 → I b (.inr m) (s, f, F, R, w + 1, am_pw W w (.inl (op m))) → I (b + 1) (.inl m) (s, f, F, R, w, W)) ∧
  (∀ b m (s : ev_S) f F R w W, m < n → K m = 2 → f ≤ 48 → w < 294 → s.2.1 = cm → J (5, m) s → I (b + 2) (.inl m) (s, f, F, R, w, W)) ∧
  (∀ b m (s : ev_S) f F R w W, m < n → K m = 2 → f ≤ 48 → w < 294 → ev_W K N n cl cm s → s.2.1 ≠ cm → I b (.inr m) (ev_clo m (F f) s, f, F, R, w + 1, am_pw W w (.inr s.2.1)) → I (b + 1) (.inl m) (s, f, F, R, w, W)) ∧
  (∀ b m s f F R w W, m < n → 3 ≤ K m → I b (.inl (m + 1)) (s, f, F, R, w, W) → I (b + 1) (.inl m) (s, f, F, R, w, W)) ∧
  (∀ b m s f F R w W, m < n → 3 ≤ K m → K m ≠ 6 → I b (.inl (e (m + 1))) (s, f, F, R, w, W) → I (b + 1) (.inr (m + 1)) (s, f, F, R, w, W)) ∧
  (∀ b m s f F R w W k, m < n → K m = 6 → w < 294 → ev_W K N n cl cm s → k < s.2.1 → J (3, m) s → I (b + 2) (.inr (m + 1)) (s, f, F, R, w + 1, am_pw W w (.inr k))) ∧
  (∀ b m s f F R w W i, m < n → K m = 6 → w < 294 → I b (.inl (if i = 0 then e (m + 1) else e (e (m + 1)))) (s, f, F, R, w, W) → I (b + 1) (.inr (m + 1)) (s, f, F, R, w + 1, am_pw W w (.inl i))) ∧
  (∀ b m s f F R w W (i : Int32), m < n → K m = 6 → I b (.inr m) (s, f, F, R, w, W) → I (b + 1) (.inr (if i = 0 then e (m + 1) else e (e (m + 1)))) (s, f, F, R, w, W)) ∧
  (∀ b m s f F R w W i j, m < n → (K m = 4 ∨ K m = 5) → w + 1 < 294 → I b (.inr m) (s, f, F, R, w + 1, am_pw W w (.inl (if K m = 4 then i + j else i - j))) → I (b + 1) (.inr (e (m + 1))) (s, f, F, R, w + 2, am_pw (am_pw W w (.inl i)) (w + 1) (.inl j))) ∧
  (∀ b m s f F R w W v x, m < n → (K m = 4 ∨ K m = 5) → w + 1 < 294 → ev_W K N n cl cm s → ev_ok s.2.1 v → ev_ok s.2.1 x → ((∃ k, v = .inr k) ∨ (∃ k, x = .inr k)) → J (3, m) s → I (b + 2) (.inr (e (m + 1))) (s, f, F, R, w + 2, am_pw (am_pw W w v) (w + 1) x)) ∧
  (∀ b m s f F R w W i x, m < n → K m = 3 → w + 1 < 294 → J (3, m) s → I (b + 2) (.inr (e (m + 1))) (s, f, F, R, w + 2, am_pw (am_pw W w (.inl i)) (w + 1) x)) ∧
  (∀ b m (s : ev_S) f F R w W k x, m < n → K m = 3 → w + 1 < 294 → ev_W K N n cl cm s → k < s.2.1 → s.1 = cl → J (4, m) s → I (b + 2) (.inr (e (m + 1))) (s, f, F, R, w + 2, am_pw (am_pw W w (.inr k)) (w + 1) x)) ∧
  (∀ b m (s : ev_S) f F R w W k x, m < n → K m = 3 → w + 1 < 294 → f < 48 → ev_W K N n cl cm s → k < s.2.1 → ev_ok s.2.1 x → s.1 ≠ cl → I b (.inl (s.2.2.1 k + 1)) (ev_call bm m k s, f + 1, am_pf F (f + 1) (ev_env N k x s), tr_put R (f + 1) m, w, W) → I (b + 1) (.inr (e (m + 1))) (s, f, F, R, w + 2, am_pw (am_pw W w (.inr k)) (w + 1) x)) ∧
  (∀ b m s f F R w W p g, m < n → p < n → K p = 2 → f < 48 → I b (.inr m) (s, f, F, R, w, W) → I (b + 1) (.inr (p + 1)) (s, f + 1, am_pf F (f + 1) g, tr_put R (f + 1) m, w, W))
/-- the levels of children -/
def tr_L (K e Lv : Nat → Nat) (n : Nat) : Prop := ∀ p, p < n → Lv p ≤ 5 ∧ (K p = 2 → Lv (p + 1) = 0) ∧ (3 ≤ K p → Lv (p + 1) = Lv p + 1 ∧ Lv (e (p + 1)) = Lv p + 1 ∧ (K p = 6 → Lv (e (e (p + 1))) = Lv p + 1))
/-- what the walk from 'begin m' to 'm done' may spend -/
def am_c (e : Nat → Nat) (m : Nat) (s s' : ev_S) : Nat := 3 * (e m - m) + 145 * (s'.1 - s.1)
def am_M (e N Lv : Nat → Nat) (I : Nat → Sum Nat Nat → am_S → Prop) (J : Nat × Nat → ev_S → Prop) (env : Nat → ev_V) (m : Nat) (s : ev_S) (r : ev_R) (s' : ev_S) : Prop :=
  ∀ f F R w W, f ≤ s.1 → w ≤ 6 * f + Lv m → F f = env →
    (∀ v, r = .inl v → ∀ b, I b (.inr m) (s', f, F, R, w + 1, am_pw W w v) → I (b + am_c e m s s') (.inl m) (s, f, F, R, w, W)) ∧
    (∀ x, r = .inr x → J x s' → I (2 + am_c e m s s') (.inl m) (s, f, F, R, w, W))
section
variable {K e N Lv ix : Nat → Nat} {op bm : Nat → Int32} {cl cm n : Nat} {I : Nat → Sum Nat Nat → am_S → Prop} {J : Nat × Nat → ev_S → Prop}
theorem am_up (Ru : am_R K e N Lv ix op bm cl cm n I J) {b d : Nat} {c : Sum Nat Nat} {a : am_S} (h : I b c a) (hd : b ≤ d) : I d c a := by
  have := Ru.1 b (d - b) c a h
  rwa [Nat.add_sub_cancel' hd] at this
theorem am_run (T : ev_T K e N ix n) (TL : tr_L K e Lv n) (hcl : cl ≤ 48) (Ru : am_R K e N Lv ix op bm cl cm n I J) : ∀ f env m s, ev_Pre K e N n cl cm f env m s → am_M e N Lv I J env m s (ev_al K e N ix op bm cl cm f env m s).1 (ev_al K e N ix op bm cl cm f env m s).2 := by
  intro f env m s P
  have up := fun {b d : Nat} {c : Sum Nat Nat} {a : am_S} (h : I b c a) (hd : b ≤ d) => am_up Ru h hd
  obtain ⟨_, rvar, rnum, rlamF, rlam, rin, r1, rifS, rif, rif1, rsum, rsumS, rappS, rappC, rapp, rret⟩ := Ru
  have T1 := T.1
  have T4 := T.2.2.2.1
  have nl : ∀ {P : Prop} {v : ev_V} {x : Nat × Nat}, (Sum.inl v : ev_R) = .inr x → P := fun e => nomatch e
  have nr : ∀ {P : Prop} {v : ev_V} {x : Nat × Nat}, (Sum.inr x : ev_R) = .inl v → P := fun e => nomatch e
  refine (ev_ind2 K e N ix op bm cl cm n T (fun _ env m s r s' => am_M e N Lv I J env m s r s') ?_ ?_ ?_ ?_ ?_ ?_ ?_ ?_ ?_ ?_ ?_ ?_ ?_ f env m s P).1
  · intro f env m s P k fr F R w W h1 h2 h3
    have hs := P.2.2.1.1
    have hl := (TL m P.1).1
    have hz := tr_k0 T1 P.1 (by omega)
    refine ⟨fun v hv b hb => ?_, fun x h => nl h⟩
    cases hv
    rw [← h3] at hb
    exact up (rvar b m s fr F R w W P.1 k (by omega) (by omega) hb) (by unfold am_c; omega)
  · intro f env m s P k fr F R w W h1 h2 h3
    have hs := P.2.2.1.1
    have hl := (TL m P.1).1
    have hz := tr_k0 T1 P.1 (by omega)
    refine ⟨fun v hv b hb => ?_, fun x h => nl h⟩
    cases hv
    exact up (rnum b m s fr F R w W P.1 k (by omega) (by omega) hb) (by unfold am_c; omega)
  · intro f env m s P k hc fr F R w W h1 h2 h3
    have hs := P.2.2.1.1
    have hl := (TL m P.1).1
    refine ⟨fun v h => nr h, fun x hx hJ => ?_⟩
    cases hx
    exact up (rlamF 0 m s fr F R w W P.1 k (by omega) (by omega) hc hJ) (by omega)
  · intro f env m s P k hc fr F R w W h1 h2 h3
    have hs := P.2.2.1.1
    have hl := (TL m P.1).1
    have hz := (T1 m P.1).1
    refine ⟨fun v hv b hb => ?_, fun x h => nl h⟩
    cases hv
    rw [← h3] at hb
    exact up (rlam b m s fr F R w W P.1 k (by omega) (by omega) P.2.2.1 hc hb) (by unfold am_c; omega)
  · intro f env m s x s1 P k A G H fr F R w W h1 h2 h3
    have hL := ((TL m P.1).2.2 k).1
    have hz : e (m + 1) ≤ e m ∧ m + 1 < e (m + 1) := by
      have h6 := T4 m P.1
      by_cases k6 : K m = 6
      · have := tr_k6 T1 P.1 k6; omega
      · have := tr_k3 T1 P.1 k k6; omega
    refine ⟨fun v h => nr h, fun y hy hJ => ?_⟩
    have := (H fr F R w W h1 (by omega) h3).2 y hy hJ
    exact up (rin _ m s fr F R w W P.1 k this) (by unfold am_c; omega)
  · intro f env m s k s1 P k6 A G H fr F R w W h1 h2 h3
    have hs := P.2.2.1.1
    have hl := (TL m P.1).1
    have hL := ((TL m P.1).2.2 (by omega)).1
    have hz := tr_k6 T1 P.1 k6
    refine ⟨fun v h => nr h, fun y hy hJ => ?_⟩
    cases hy
    have a1 := rifS 0 m s1 fr F R w W k P.1 k6 (by omega) G.1 (G.2.2.1 _ rfl k rfl) hJ
    have a2 := (H fr F R w W h1 (by omega) h3).1 _ rfl _ a1
    exact up (rin _ m s fr F R w W P.1 (by omega) a2) (by unfold am_c; omega)
  · intro f env m s i s1 r s2 P k6 A G B G2 H H2 fr F R w W h1 h2 h3
    have hs := P.2.2.1.1
    have hl := (TL m P.1).1
    have hL := (TL m P.1).2.2 (by omega)
    have hz := tr_k6 T1 P.1 k6
    have hc1 := G.2.1.1
    have hc2 := G2.2.1.1
    have hLb : Lv (if i = 0 then e (m + 1) else e (e (m + 1))) = Lv m + 1 := by
      by_cases z : i = 0
      · rw [if_pos z]; exact hL.2.1
      · rw [if_neg z]; exact hL.2.2 k6
    have hcost : am_c e (if i = 0 then e (m + 1) else e (e (m + 1))) s1 s2 + am_c e (m + 1) s s1 + 3 ≤ am_c e m s s2 := by
      unfold am_c
      by_cases z : i = 0
      · rw [if_pos z]; omega
      · rw [if_neg z]; omega
    have I2 := H2 fr F R w W (by omega) (by omega) h3
    have I1 := (H fr F R w W h1 (by omega) h3).1 _ rfl
    refine ⟨fun v hv b hb => ?_, fun y hy hJ => ?_⟩
    · have a1 := rif1 b m s2 fr F R (w + 1) (am_pw W w v) i P.1 k6 hb
      have a2 := I2.1 v hv _ a1
      have a3 := rif _ m s1 fr F R w W i P.1 k6 (by omega) a2
      have a4 := I1 _ a3
      exact up (rin _ m s fr F R w W P.1 (by omega) a4) (by omega)
    · have a2 := I2.2 y hy hJ
      have a3 := rif _ m s1 fr F R w W i P.1 k6 (by omega) a2
      have a4 := I1 _ a3
      exact up (rin _ m s fr F R w W P.1 (by omega) a4) (by omega)
  · intro f env m s v s1 x s2 P k k6 A G B G2 H H2 fr F R w W h1 h2 h3
    have hs := P.2.2.1.1
    have hl := (TL m P.1).1
    have hL := (TL m P.1).2.2 k
    have hz := tr_k3 T1 P.1 k k6
    have hc1 := G.2.1.1
    have hc2 := G2.2.1.1
    refine ⟨fun v h => nr h, fun y hy hJ => ?_⟩
    have a2 := (H2 fr F R (w + 1) (am_pw W w v) (by omega) (by omega) h3).2 y hy hJ
    have a3 := r1 _ m s1 fr F R (w + 1) (am_pw W w v) P.1 k k6 a2
    have a4 := (H fr F R w W h1 (by omega) h3).1 _ rfl _ a3
    exact up (rin _ m s fr F R w W P.1 k a4) (by unfold am_c; omega)
  · intro f env m s i s1 x s2 P k A G B G2 H H2 fr F R w W h1 h2 h3
    have hs := P.2.2.1.1
    have hl := (TL m P.1).1
    have hL := (TL m P.1).2.2 (by omega)
    have hz := tr_k3 T1 P.1 (by omega) (by omega)
    have hl1 := (TL (m + 1) hz.1).1
    have hc1 := G.2.1.1
    have hc2 := G2.2.1.1
    refine ⟨fun v h => nr h, fun y hy hJ => ?_⟩
    cases hy
    have a1 := rappS 0 m s2 fr F R w W i x P.1 k (by omega) hJ
    have a2 := (H2 fr F R (w + 1) (am_pw W w (.inl i)) (by omega) (by omega) h3).1 _ rfl _ a1
    have a3 := r1 _ m s1 fr F R (w + 1) (am_pw W w (.inl i)) P.1 (by omega) (by omega) a2
    have a4 := (H fr F R w W h1 (by omega) h3).1 _ rfl _ a3
    exact up (rin _ m s fr F R w W P.1 (by omega) a4) (by unfold am_c; omega)
  · intro f env m s j s1 x s2 P k hc A G B G2 H H2 fr F R w W h1 h2 h3
    have hs := P.2.2.1.1
    have hl := (TL m P.1).1
    have hL := (TL m P.1).2.2 (by omega)
    have hz := tr_k3 T1 P.1 (by omega) (by omega)
    have hl1 := (TL (m + 1) hz.1).1
    have hc1 := G.2.1.1
    have hc2 := G2.2.1.1
    have hj : j < s2.2.1 := Nat.lt_of_lt_of_le (G.2.2.1 _ rfl j rfl) G2.2.1.2.1
    refine ⟨fun v h => nr h, fun y hy hJ => ?_⟩
    cases hy
    have a1 := rappC 0 m s2 fr F R w W j x P.1 k (by omega) G2.1 hj hc hJ
    have a2 := (H2 fr F R (w + 1) (am_pw W w (.inr j)) (by omega) (by omega) h3).1 _ rfl _ a1
    have a3 := r1 _ m s1 fr F R (w + 1) (am_pw W w (.inr j)) P.1 (by omega) (by omega) a2
    have a4 := (H fr F R w W h1 (by omega) h3).1 _ rfl _ a3
    exact up (rin _ m s fr F R w W P.1 (by omega) a4) (by unfold am_c; omega)
  · intro f env m s j s1 x s2 r s3 P k hc A G B G2 C G3 H H2 H3 fr F R w W h1 h2 h3
    have hs := P.2.2.1.1
    have hl := (TL m P.1).1
    have hL := (TL m P.1).2.2 (by omega)
    have hz := tr_k3 T1 P.1 (by omega) (by omega)
    have hl1 := (TL (m + 1) hz.1).1
    have hc1 := G.2.1.1
    have hc2 := G2.2.1.1
    have hw2 := G2.1.1
    have hc3 : s2.1 + 1 ≤ s3.1 := G3.2.1.1
    have hj : j < s2.2.1 := Nat.lt_of_lt_of_le (G.2.2.1 _ rfl j rfl) G2.2.1.2.1
    obtain ⟨b1, b2, _⟩ := G2.1.2.2 j hj
    have hb := tr_k2 T1 b1 b2
    have hLb := (TL _ b1).2.1 b2
    have h48 := T.2.2.1
    have hcost : am_c e (s2.2.2.1 j + 1) (ev_call bm m j s2) s3 + am_c e (e (m + 1)) s1 s2 + am_c e (m + 1) s s1 + 4 ≤ am_c e m s s3 := by
      show 3 * (e (s2.2.2.1 j + 1) - (s2.2.2.1 j + 1)) + 145 * (s3.1 - (s2.1 + 1)) + (3 * (e (e (m + 1)) - e (m + 1)) + 145 * (s2.1 - s1.1)) + (3 * (e (m + 1) - (m + 1)) + 145 * (s1.1 - s.1)) + 4 ≤ 3 * (e m - m) + 145 * (s3.1 - s.1)
      omega
    have I3 := H3 (fr + 1) (am_pf F (fr + 1) (ev_env N j x s2)) (tr_put R (fr + 1) m) w W (show fr + 1 ≤ s2.1 + 1 by omega) (by omega) (am_pf_s _ _ _)
    have I2 := (H2 fr F R (w + 1) (am_pw W w (.inr j)) (by omega) (by omega) h3).1 _ rfl
    have I1 := (H fr F R w W h1 (by omega) h3).1 _ rfl
    refine ⟨fun v hv b hb => ?_, fun y hy hJ => ?_⟩
    · have a0 := rret b m s3 fr F R (w + 1) (am_pw W w v) (s2.2.2.1 j) (ev_env N j x s2) P.1 b1 b2 (by omega) hb
      have a1 := I3.1 v hv _ a0
      have a2 := rapp _ m s2 fr F R w W j x P.1 k (by omega) (by omega) G2.1 hj (G2.2.2.1 _ rfl) hc a1
      have a3 := I2 _ a2
      have a4 := r1 _ m s1 fr F R (w + 1) (am_pw W w (.inr j)) P.1 (by omega) (by omega) a3
      have a5 := I1 _ a4
      exact up (rin _ m s fr F R w W P.1 (by omega) a5) (by omega)
    · have a1 := I3.2 y hy hJ
      have a2 := rapp _ m s2 fr F R w W j x P.1 k (by omega) (by omega) G2.1 hj (G2.2.2.1 _ rfl) hc a1
      have a3 := I2 _ a2
      have a4 := r1 _ m s1 fr F R (w + 1) (am_pw W w (.inr j)) P.1 (by omega) (by omega) a3
      have a5 := I1 _ a4
      exact up (rin _ m s fr F R w W P.1 (by omega) a5) (by omega)
  · intro f env m s i s1 j s2 P k A G B G2 H H2 fr F R w W h1 h2 h3
    have hs := P.2.2.1.1
    have hl := (TL m P.1).1
    have hL := (TL m P.1).2.2 (by omega)
    have hz := tr_k3 T1 P.1 (by omega) (by omega)
    have hl1 := (TL (m + 1) hz.1).1
    have hc1 := G.2.1.1
    have hc2 := G2.2.1.1
    refine ⟨fun v hv b hb => ?_, fun x h => nl h⟩
    cases hv
    have a1 := rsum b m s2 fr F R w W i j P.1 k (by omega) hb
    have a2 := (H2 fr F R (w + 1) (am_pw W w (.inl i)) (by omega) (by omega) h3).1 _ rfl _ a1
    have a3 := r1 _ m s1 fr F R (w + 1) (am_pw W w (.inl i)) P.1 (by omega) (by omega) a2
    have a4 := (H fr F R w W h1 (by omega) h3).1 _ rfl _ a3
    exact up (rin _ m s fr F R w W P.1 (by omega) a4) (by unfold am_c; omega)
  · intro f env m s v s1 x s2 P k hv A G B G2 H H2 fr F R w W h1 h2 h3
    have hs := P.2.2.1.1
    have hl := (TL m P.1).1
    have hL := (TL m P.1).2.2 (by omega)
    have hz := tr_k3 T1 P.1 (by omega) (by omega)
    have hl1 := (TL (m + 1) hz.1).1
    have hc1 := G.2.1.1
    have hc2 := G2.2.1.1
    refine ⟨fun v h => nr h, fun y hy hJ => ?_⟩
    cases hy
    have a1 := rsumS 0 m s2 fr F R w W v x P.1 k (by omega) G2.1 (ev_ok_up (G.2.2.1 _ rfl) G2.2.1.2.1) (G2.2.2.1 _ rfl) hv hJ
    have a2 := (H2 fr F R (w + 1) (am_pw W w v) (by omega) (by omega) h3).1 _ rfl _ a1
    have a3 := r1 _ m s1 fr F R (w + 1) (am_pw W w v) P.1 (by omega) (by omega) a2
    have a4 := (H fr F R w W h1 (by omega) h3).1 _ rfl _ a3
    exact up (rin _ m s fr F R w W P.1 (by omega) a4) (by unfold am_c; omega)
end
end
section
/-! ===== where the code of a node stands: la_c d m a z: the code of m is [a, z) ===== -/
def la_c (K e lv sk oc nd tg : Nat → Nat) : Nat → Nat → Nat → Nat → Prop
  | 0, _, _, _ => False
  | d + 1, m, a, z =>
    (K m = 0 → oc a = 1 ∧ nd a = m ∧ z = a + 1) ∧ (K m = 1 → oc a = 0 ∧ nd a = m ∧ z = a + 1) ∧ (K m = 2 → oc a = 2 ∧ nd a = m ∧ z = a + 1) ∧
    (3 ≤ K m → K m ≠ 6 → ∃ y x, la_c K e lv sk oc nd tg d (m + 1) a y ∧ la_c K e lv sk oc nd tg d (e (m + 1)) y x ∧ oc x = (if K m = 3 then sk m else 3) ∧ nd x = m ∧ z = x + 1) ∧
    (K m = 6 → lv (e (m + 1)) = 1 → ∃ y x, la_c K e lv sk oc nd tg d (m + 1) a y ∧ oc y = 4 ∧ nd y = m ∧ la_c K e lv sk oc nd tg d (e (m + 1)) (y + 1) x ∧ oc x = 5 ∧ nd x = m ∧ tg y = x + 1 ∧ la_c K e lv sk oc nd tg d (e (e (m + 1))) (x + 1) z ∧ tg x = z) ∧
    (K m = 6 → lv (e (m + 1)) ≠ 1 → ∃ y, la_c K e lv sk oc nd tg d (m + 1) a y ∧ oc y = 8 ∧ nd y = m ∧ z = y + 1)
theorem la_lt {K e lv sk oc nd tg : Nat → Nat} : ∀ d m a z, la_c K e lv sk oc nd tg d m a z → a < z := by
  intro d
  induction d with
  | zero => intro m a z h; exact h.elim
  | succ d ih =>
    intro m a z ⟨h0, h1, h2, h3, h4, h5⟩
    by_cases k0 : K m = 0
    · have := h0 k0; omega
    by_cases k1 : K m = 1
    · have := h1 k1; omega
    by_cases k2 : K m = 2
    · have := h2 k2; omega
    by_cases k6 : K m = 6
    · by_cases q : lv (e (m + 1)) = 1
      · obtain ⟨y, x, a1, _, _, a4, _, _, _, a8, _⟩ := h4 k6 q
        have := ih _ _ _ a1
        have := ih _ _ _ a4
        have := ih _ _ _ a8
        omega
      · obtain ⟨y, a1, _, _, a4⟩ := h5 k6 q
        have := ih _ _ _ a1
        omega
    · obtain ⟨y, x, a1, a2, _, _, a5⟩ := h3 (by omega) k6
      have := ih _ _ _ a1
      have := ih _ _ _ a2
      omega
/-- the code of a node looks at its own cells alone; at targets only where no known call stands -/
theorem la_keep {K e lv sk oc nd tg oc' nd' tg' : Nat → Nat} (lo hi : Nat) (h1 : ∀ j, lo ≤ j → j < hi → oc' j = oc j ∧ nd' j = nd j ∧ (oc j ≠ 6 → tg' j = tg j)) : ∀ d m a z, lo ≤ a → z ≤ hi → la_c K e lv sk oc nd tg d m a z → la_c K e lv sk oc' nd' tg' d m a z := by
  intro d
  induction d with
  | zero => intro m a z _ _ h; exact h.elim
  | succ d ih =>
    intro m a z hl hh h
    have hlt := la_lt _ _ _ _ h
    obtain ⟨g0, g1, g2, g3, g4, g5⟩ := h
    obtain ⟨e1, e2, _⟩ := h1 a hl (by omega)
    refine ⟨fun k => ?_, fun k => ?_, fun k => ?_, fun k k6 => ?_, fun k q => ?_, fun k q => ?_⟩
    · rw [e1, e2]; exact g0 k
    · rw [e1, e2]; exact g1 k
    · rw [e1, e2]; exact g2 k
    · obtain ⟨y, x, a1, a2, a3, a4, a5⟩ := g3 k k6
      have l1 := la_lt _ _ _ _ a1
      have l2 := la_lt _ _ _ _ a2
      obtain ⟨f1, f2, _⟩ := h1 x (by omega) (by omega)
      exact ⟨y, x, ih _ _ _ hl (by omega) a1, ih _ _ _ (by omega) (by omega) a2, by rw [f1]; exact a3, by rw [f2]; exact a4, a5⟩
    · obtain ⟨y, x, a1, a2, a3, a4, a5, a6, a7, a8, a9⟩ := g4 k q
      have l1 := la_lt _ _ _ _ a1
      have l2 := la_lt _ _ _ _ a4
      have l3 := la_lt _ _ _ _ a8
      obtain ⟨f1, f2, f3⟩ := h1 y (by omega) (by omega)
      obtain ⟨p1, p2, p3⟩ := h1 x (by omega) (by omega)
      exact ⟨y, x, ih _ _ _ hl (by omega) a1, by rw [f1]; exact a2, by rw [f2]; exact a3, ih _ _ _ (by omega) (by omega) a4, by rw [p1]; exact a5, by rw [p2]; exact a6, by rw [f3 (by omega)]; exact a7, ih _ _ _ (by omega) (by omega) a8, by rw [p3 (by omega)]; exact a9⟩
    · obtain ⟨y, a1, a2, a3, a4⟩ := g5 k q
      have l1 := la_lt _ _ _ _ a1
      obtain ⟨f1, f2, _⟩ := h1 y (by omega) (by omega)
      exact ⟨y, ih _ _ _ hl (by omega) a1, by rw [f1]; exact a2, by rw [f2]; exact a3, a4⟩
/-! the rules of the machine over code: C b pc a -/
def cm_R (K e N Lv ix en : Nat → Nat) (op bm : Nat → Int32) (lc oc nd tg : Nat → Nat) (cl cm n cn : Nat) (C : Nat → Nat → am_S → Prop) (J : Nat × Nat → ev_S → Prop) : Prop :=
  (∀ b d c a, C b c a → C (b + d) c a) ∧
  (∀ b c m s f F R w W, c < cn → oc c = 1 → nd c = m → m < n → K m = 0 → f ≤ 48 → w < 294 → C b (c + 1) (s, f, F, R, w + 1, am_pw W w (F f (ix m))) → C (b + 1) c (s, f, F, R, w, W)) ∧
  (∀ b c m s f F R w W, c < cn → oc c = 0 → nd c = m → m < n → K m = 1 → f ≤ 48 → w < 294 → C b (c + 1) (s, f, F, R, w + 1, am_pw W w (.inl (op m))) → C (b + 1) c (s, f, F, R, w, W)) ∧
  (∀ b c m (s : ev_S) f F R w W, c < cn → oc c = 2 → nd c = m → m < n → K m = 2 → f ≤ 48 → w < 294 → s.2.1 = cm → J (5, m) s → C (b + 2) c (s, f, F, R, w, W)) ∧
  (∀ b c m (s : ev_S) f F R w W, c < cn → oc c = 2 → nd c = m → m < n → K m = 2 → f ≤ 48 → w < 294 → ev_W K N n cl cm s → s.2.1 ≠ cm → C b (c + 1) (ev_clo m (F f) s, f, F, R, w + 1, am_pw W w (.inr s.2.1)) → C (b + 1) c (s, f, F, R, w, W)) ∧
  (∀ b c m s f F R w W k, c < cn → oc c = 4 → nd c = m → m < n → K m = 6 → w < 294 → ev_W K N n cl cm s → k < s.2.1 → J (3, m) s → C (b + 2) c (s, f, F, R, w + 1, am_pw W w (.inr k))) ∧
  (∀ b c m s f F R w W i, c < cn → oc c = 4 → nd c = m → m < n → K m = 6 → w < 294 → C b (if i = 0 then c + 1 else tg c) (s, f, F, R, w, W) → C (b + 1) c (s, f, F, R, w + 1, am_pw W w (.inl i))) ∧
  (∀ b c a, c < cn → oc c = 5 → C b (tg c) a → C (b + 1) c a) ∧
  (∀ b c m s f F R w W i j, c < cn → oc c = 3 → nd c = m → m < n → (K m = 4 ∨ K m = 5) → w + 1 < 294 → C b (c + 1) (s, f, F, R, w + 1, am_pw W w (.inl (if K m = 4 then i + j else i - j))) → C (b + 1) c (s, f, F, R, w + 2, am_pw (am_pw W w (.inl i)) (w + 1) (.inl j))) ∧
  (∀ b c m s f F R w W v x, c < cn → oc c = 3 → nd c = m → m < n → (K m = 4 ∨ K m = 5) → w + 1 < 294 → ev_W K N n cl cm s → ev_ok s.2.1 v → ev_ok s.2.1 x → ((∃ k, v = .inr k) ∨ (∃ k, x = .inr k)) → J (3, m) s → C (b + 2) c (s, f, F, R, w + 2, am_pw (am_pw W w v) (w + 1) x)) ∧
  (∀ b c m s f F R w W i x, c < cn → oc c = 7 → nd c = m → m < n → K m = 3 → w + 1 < 294 → J (3, m) s → C (b + 2) c (s, f, F, R, w + 2, am_pw (am_pw W w (.inl i)) (w + 1) x)) ∧
  (∀ b c m s a, c < cn → oc c = 8 → nd c = m → m < n → a.1 = s → J (3, m) s → C (b + 2) c a) ∧
  (∀ b c m (s : ev_S) f F R w W k x, c < cn → (oc c = 6 ∨ oc c = 7) → nd c = m → m < n → K m = 3 → w + 1 < 294 → ev_W K N n cl cm s → k < s.2.1 → s.1 = cl → J (4, m) s → C (b + 2) c (s, f, F, R, w + 2, am_pw (am_pw W w (.inr k)) (w + 1) x)) ∧
  (∀ b c m (s : ev_S) f F R w W k x, c < cn → (oc c = 6 ∧ tg c = en (lc (s.2.2.1 k)) ∨ oc c = 7) → nd c = m → m < n → K m = 3 → w + 1 < 294 → f < 48 → ev_W K N n cl cm s → k < s.2.1 → ev_ok s.2.1 x → s.1 ≠ cl → N (nd (en (lc (s.2.2.1 k)))) = N (s.2.2.1 k) + 1 → C b (en (lc (s.2.2.1 k))) (ev_call bm m k s, f + 1, am_pf F (f + 1) (ev_env N k x s), tr_put R (f + 1) (c + 1), w, W) → C (b + 1) c (s, f, F, R, w + 2, am_pw (am_pw W w (.inr k)) (w + 1) x)) ∧
  (∀ b c z s f F R w W g, c < cn → oc c = 9 → f < 48 → C b z (s, f, F, R, w, W) → C (b + 1) c (s, f + 1, am_pf F (f + 1) g, tr_put R (f + 1) z, w, W))
/-- one bit alone -/
theorem cm_one : ∀ f : Nat, f &&& (f - 1) = 0 → ∀ i, f.testBit i = true → f = 2 ^ i := by
  intro f
  induction f using Nat.strongRecOn with
  | _ f ih =>
    intro h i hi
    rcases Nat.eq_zero_or_pos f with z | z
    · rw [z, Nat.zero_testBit] at hi; cases hi
    have hd : (f &&& (f - 1)) / 2 = f / 2 &&& (f - 1) / 2 := Nat.and_div_two
    rw [h] at hd
    by_cases o : f % 2 = 1
    · -- odd: f / 2 meets itself
      have e1 : (f - 1) / 2 = f / 2 := by omega
      rw [e1, Nat.and_self] at hd
      have e2 : f = 1 := by omega
      subst e2
      cases i with
      | zero => rfl
      | succ i => rw [Nat.testBit_succ] at hi; simp at hi
    · have e1 : (f - 1) / 2 = f / 2 - 1 := by omega
      rw [e1] at hd
      cases i with
      | zero =>
        rw [Nat.testBit_zero, decide_eq_true_iff] at hi
        exact absurd hi o
      | succ i =>
        rw [Nat.testBit_succ] at hi
        have := ih (f / 2) (by omega) (by omega) i hi
        rw [Nat.pow_succ]
        omega
def cm_sk (e : Nat → Nat) (t : so_S) (m : Nat) : Nat :=
  if t.1 m = 0 ∨ t.2.1 (m + 1) % 65536 = 0 ∨ t.2.1 (e (m + 1)) = 0 then 8
  else if t.2.1 (m + 1) &&& (t.2.1 (m + 1) - 1) = 0 then 6 else 7
/-- the cells of a node's code: their nodes have its nest, their targets lie in the code or at its end -/
theorem la_N {K e N lv sk oc nd tg : Nat → Nat} {n : Nat} (T : tr_T K e n) (C : tr_C K e N n) (hsk : ∀ m, 6 ≤ sk m ∧ sk m ≤ 8) (hK : ∀ m, m < n → K m ≤ 6) : ∀ d m a z, m < n → la_c K e lv sk oc nd tg d m a z → ∀ c, a ≤ c → c < z → nd c < n ∧ N (nd c) = N m ∧ oc c ≤ 8 ∧ (oc c = 4 ∨ oc c = 5 → a ≤ tg c ∧ tg c ≤ z) ∧ (oc c = 6 → K (nd c) = 3) := by
  intro d
  induction d with
  | zero => intro m a z _ h; exact h.elim
  | succ d ih =>
    intro m a z hm h c h1 h2
    obtain ⟨g0, g1, g2, g3, g4, g5⟩ := h
    have h6 := hK m hm
    have leaf : ∀ x, oc a = x → nd a = m → z = a + 1 → x ≤ 2 → nd c < n ∧ N (nd c) = N m ∧ oc c ≤ 8 ∧ (oc c = 4 ∨ oc c = 5 → a ≤ tg c ∧ tg c ≤ z) ∧ (oc c = 6 → K (nd c) = 3) := fun x e1 e2 e3 e4 => by
      have e : c = a := by omega
      subst e
      rw [e1, e2]
      exact ⟨hm, rfl, by omega, fun w => by omega, fun w => by omega⟩
    by_cases k0 : K m = 0
    · obtain ⟨e1, e2, e3⟩ := g0 k0; exact leaf 1 e1 e2 e3 (by omega)
    by_cases k1 : K m = 1
    · obtain ⟨e1, e2, e3⟩ := g1 k1; exact leaf 0 e1 e2 e3 (by omega)
    by_cases k2 : K m = 2
    · obtain ⟨e1, e2, e3⟩ := g2 k2; exact leaf 2 e1 e2 e3 (by omega)
    obtain ⟨c1, c2, c3⟩ := (C m hm).2 (by omega)
    by_cases k6 : K m = 6
    · have hz := tr_k6 T hm k6
      by_cases q : lv (e (m + 1)) = 1
      · obtain ⟨y, x, a1, a2, a3, a4, a5, a6, a7, a8, a9⟩ := g4 k6 q
        have l1 := la_lt _ _ _ _ a1
        have l2 := la_lt _ _ _ _ a4
        have l3 := la_lt _ _ _ _ a8
        by_cases p1 : c < y
        · obtain ⟨r1, r2, r3, r4, r5⟩ := ih _ _ _ (by omega) a1 c h1 p1
          exact ⟨r1, r2.trans c1, r3, fun w => by have := r4 w; omega, r5⟩
        by_cases p2 : c = y
        · subst p2
          rw [a2, a3, a7]
          exact ⟨hm, rfl, by omega, fun _ => by omega, fun w => by omega⟩
        by_cases p3 : c < x
        · obtain ⟨r1, r2, r3, r4, r5⟩ := ih _ _ _ (by omega) a4 c (by omega) p3
          exact ⟨r1, r2.trans c2, r3, fun w => by have := r4 w; omega, r5⟩
        by_cases p4 : c = x
        · subst p4
          rw [a5, a6, a9]
          exact ⟨hm, rfl, by omega, fun _ => by omega, fun w => by omega⟩
        · obtain ⟨r1, r2, r3, r4, r5⟩ := ih _ _ _ (by omega) a8 c (by omega) h2
          exact ⟨r1, r2.trans (c3 k6), r3, fun w => by have := r4 w; omega, r5⟩
      · obtain ⟨y, a1, a2, a3, a4⟩ := g5 k6 q
        by_cases p1 : c < y
        · obtain ⟨r1, r2, r3, r4, r5⟩ := ih _ _ _ (by omega) a1 c h1 p1
          exact ⟨r1, r2.trans c1, r3, fun w => by have := r4 w; omega, r5⟩
        · have e : c = y := by omega
          subst e
          rw [a2, a3]
          exact ⟨hm, rfl, by omega, fun w => by omega, fun w => by omega⟩
    · have hz := tr_k3 T hm (by omega) k6
      obtain ⟨y, x, a1, a2, a3, a4, a5⟩ := g3 (by omega) k6
      have l1 := la_lt _ _ _ _ a1
      have l2 := la_lt _ _ _ _ a2
      by_cases p1 : c < y
      · obtain ⟨r1, r2, r3, r4, r5⟩ := ih _ _ _ (by omega) a1 c h1 p1
        exact ⟨r1, r2.trans c1, r3, fun w => by have := r4 w; omega, r5⟩
      by_cases p2 : c < x
      · obtain ⟨r1, r2, r3, r4, r5⟩ := ih _ _ _ (by omega) a2 c (by omega) p2
        exact ⟨r1, r2.trans c2, r3, fun w => by have := r4 w; omega, r5⟩
      · have e : c = x := by omega
        subst e
        have hs := hsk m
        rw [a3, a4]
        by_cases k3 : K m = 3
        · rw [if_pos k3]
          exact ⟨hm, rfl, by omega, fun w => by omega, fun _ => k3⟩
        · rw [if_neg k3]
          exact ⟨hm, rfl, by omega, fun w => by omega, fun w => by omega⟩
theorem cm_sk_in {e : Nat → Nat} {t : so_S} : ∀ m, 6 ≤ cm_sk e t m ∧ cm_sk e t m ≤ 8 := by
  intro m
  unfold cm_sk
  by_cases a : t.1 m = 0 ∨ t.2.1 (m + 1) % 65536 = 0 ∨ t.2.1 (e (m + 1)) = 0
  · rw [if_pos a]; omega
  · rw [if_neg a]
    by_cases b : t.2.1 (m + 1) &&& (t.2.1 (m + 1) - 1) = 0
    · rw [if_pos b]; omega
    · rw [if_neg b]; omega
end
section
/-! ===== the machine over code does what the evaluator does ===== -/
def cm_G (K e lc bd oc nd tg en : Nat → Nat) (L n cn : Nat) (t : so_S) : Prop :=
  (∀ p, p < n → K p = 2 → t.1 (p + 1) = 1 → ∃ d z, la_c K e t.1 (cm_sk e t) oc nd tg d (p + 1) (en (lc p)) z ∧ z < cn ∧ oc z = 9) ∧
  (∀ x, x < cn → oc x = 6 → ∀ l, l < L → t.2.1 (nd x + 1) = 2 ^ l → tg x = en l)
def cm_M (K e Lv oc nd tg : Nat → Nat) (cn : Nat) (t : so_S) (C : Nat → Nat → am_S → Prop) (J : Nat × Nat → ev_S → Prop) (env : Nat → ev_V) (m : Nat) (s : ev_S) (r : ev_R) (s' : ev_S) : Prop :=
  ∀ d a z f F R w W, la_c K e t.1 (cm_sk e t) oc nd tg d m a z → z ≤ cn → f ≤ s.1 → w ≤ 6 * f + Lv m → F f = env →
    (∀ v, r = .inl v → ∀ b, C b z (s', f, F, R, w + 1, am_pw W w v) → C (b + am_c e m s s') a (s, f, F, R, w, W)) ∧
    (∀ x, r = .inr x → J x s' → C (2 + am_c e m s s') a (s, f, F, R, w, W))
theorem cm_mod {a l : Nat} (h : a % 65536 = 0) (hl : l < 16) : a.testBit l = false := by
  have h1 : (a % 2 ^ 16).testBit l = (decide (l < 16) && a.testBit l) := Nat.testBit_mod_two_pow a 16 l
  have h2 : a % 2 ^ 16 = 0 := h
  rw [h2, Nat.zero_testBit, decide_eq_true hl, Bool.true_and] at h1
  exact h1.symm
section
variable {K e N Lv ix bl lc bd en oc nd tg : Nat → Nat} {sc : Nat → Nat → Bool} {op bm : Nat → Int32} {cl cm n L cn : Nat} {t : so_S} {C : Nat → Nat → am_S → Prop} {J : Nat × Nat → ev_S → Prop}
theorem cm_up (Ru : cm_R K e N Lv ix en op bm lc oc nd tg cl cm n cn C J) {b d c : Nat} {a : am_S} (h : C b c a) (hd : b ≤ d) : C d c a := by
  have := Ru.1 b (d - b) c a h
  rwa [Nat.add_sub_cancel' hd] at this
theorem cm_run (T : ev_T K e N ix n) (TL : tr_L K e Lv n) (hcl : cl ≤ 48) (hL : L ≤ 16) (B : so_B K e N ix bl lc bd sc n L) (Cl : so_Cl K e bl lc bd L n t) (G : cm_G K e lc bd oc nd tg en L n cn t) (Ru : cm_R K e N Lv ix en op bm lc oc nd tg cl cm n cn C J) :
    ∀ f env m s, ev_Pre K e N n cl cm f env m s → so_SP K N lc sc n t m env s → cm_M K e Lv oc nd tg cn t C J env m s (ev_al K e N ix op bm cl cm f env m s).1 (ev_al K e N ix op bm cl cm f env m s).2 := by
  intro f env m s P0 S0
  have up := fun {b d c : Nat} {a : am_S} (h : C b c a) (hd : b ≤ d) => cm_up Ru h hd
  obtain ⟨_, rvar, rnum, rlamF, rlam, rifS, rif, rjmp, rsum, rsumS, rappS, rstk, rappC, rapp, rret⟩ := Ru
  have T1 := T.1
  have T4 := T.2.2.2.1
  have nl : ∀ {P : Prop} {v : ev_V} {x : Nat × Nat}, (Sum.inl v : ev_R) = .inr x → P := fun e => nomatch e
  have nr : ∀ {P : Prop} {v : ev_V} {x : Nat × Nat}, (Sum.inr x : ev_R) = .inl v → P := fun e => nomatch e
  have un : ∀ {d m a z}, la_c K e t.1 (cm_sk e t) oc nd tg d m a z → ∃ d', d = d' + 1 := fun {d m a z} h => by
    cases d with
    | zero => exact h.elim
    | succ d => exact ⟨d, rfl⟩
  refine (ev_ind3 K e N ix bl lc bd sc op bm cl cm n L t T B Cl (fun _ env m s r s' => cm_M K e Lv oc nd tg cn t C J env m s r s') ?_ ?_ ?_ ?_ ?_ ?_ ?_ ?_ ?_ ?_ ?_ ?_ ?_ f env m s P0 S0).1
  · intro f env m s P S k qq d a z fr F R w W hla hz0 h1 h2 h3
    obtain ⟨d, rfl⟩ := un hla
    obtain ⟨o1, o2, o3⟩ := hla.1 k
    have hs := P.2.2.1.1
    have hl := (TL m P.1).1
    have hz := tr_k0 T1 P.1 (by omega)
    refine ⟨fun v hv b hb => ?_, fun x h => nl h⟩
    cases hv
    rw [← h3, o3] at hb
    exact up (rvar b a m s fr F R w W (by omega) o1 o2 P.1 k (by omega) (by omega) hb) (by unfold am_c; omega)
  · intro f env m s P S k qq d a z fr F R w W hla hz0 h1 h2 h3
    obtain ⟨d, rfl⟩ := un hla
    obtain ⟨o1, o2, o3⟩ := hla.2.1 k
    have hs := P.2.2.1.1
    have hl := (TL m P.1).1
    have hz := tr_k0 T1 P.1 (by omega)
    refine ⟨fun v hv b hb => ?_, fun x h => nl h⟩
    cases hv
    rw [o3] at hb
    exact up (rnum b a m s fr F R w W (by omega) o1 o2 P.1 k (by omega) (by omega) hb) (by unfold am_c; omega)
  · intro f env m s P S k hc qq d a z fr F R w W hla hz0 h1 h2 h3
    obtain ⟨d, rfl⟩ := un hla
    obtain ⟨o1, o2, o3⟩ := hla.2.2.1 k
    have hs := P.2.2.1.1
    have hl := (TL m P.1).1
    refine ⟨fun v h => nr h, fun x hx hJ => ?_⟩
    cases hx
    exact up (rlamF 0 a m s fr F R w W (by omega) o1 o2 P.1 k (by omega) (by omega) hc hJ) (by omega)
  · intro f env m s P S k hc qq d a z fr F R w W hla hz0 h1 h2 h3
    obtain ⟨d, rfl⟩ := un hla
    obtain ⟨o1, o2, o3⟩ := hla.2.2.1 k
    have hs := P.2.2.1.1
    have hl := (TL m P.1).1
    have hz := (T1 m P.1).1
    refine ⟨fun v hv b hb => ?_, fun x h => nl h⟩
    cases hv
    rw [← h3, o3] at hb
    exact up (rlam b a m s fr F R w W (by omega) o1 o2 P.1 k (by omega) (by omega) P.2.2.1 hc hb) (by unfold am_c; omega)
  -- an end in the first child
  · intro f env m s x s1 P S k A1 S1 G1 q1 qq H1 d a z fr F R w W hla hz0 h1 h2 h3
    obtain ⟨d, rfl⟩ := un hla
    have hL1 := ((TL m P.1).2.2 k).1
    have h6 := T4 m P.1
    refine ⟨fun v h => nr h, fun y hy hJ => ?_⟩
    by_cases k6 : K m = 6
    · have hz := tr_k6 T1 P.1 k6
      by_cases q : t.1 (e (m + 1)) = 1
      · obtain ⟨y1, x1, a1, _, _, a4, _, _, _, a8, _⟩ := hla.2.2.2.2.1 k6 q
        have l1 := la_lt _ _ _ _ a4
        have l2 := la_lt _ _ _ _ a8
        exact up ((H1 d a y1 fr F R w W a1 (by omega) h1 (by omega) h3).2 y hy hJ) (by unfold am_c; omega)
      · obtain ⟨y1, a1, _, _, a4⟩ := hla.2.2.2.2.2 k6 q
        exact up ((H1 d a y1 fr F R w W a1 (by omega) h1 (by omega) h3).2 y hy hJ) (by unfold am_c; omega)
    · have hz := tr_k3 T1 P.1 k k6
      obtain ⟨y1, x1, a1, a2, _, _, a5⟩ := hla.2.2.2.1 k k6
      have l1 := la_lt _ _ _ _ a2
      exact up ((H1 d a y1 fr F R w W a1 (by omega) h1 (by omega) h3).2 y hy hJ) (by unfold am_c; omega)
  -- IF0 on a closure
  · intro f env m s j s1 P S k6 A1 S1 G1 q1 qq H1 d a z fr F R w W hla hz0 h1 h2 h3
    obtain ⟨d, rfl⟩ := un hla
    have hs := P.2.2.1.1
    have hl := (TL m P.1).1
    have hL1 := ((TL m P.1).2.2 (by omega)).1
    have hz := tr_k6 T1 P.1 k6
    refine ⟨fun v h => nr h, fun y hy hJ => ?_⟩
    cases hy
    by_cases q : t.1 (e (m + 1)) = 1
    · obtain ⟨y1, x1, a1, o1, o2, a4, _, _, _, a8, _⟩ := hla.2.2.2.2.1 k6 q
      have l1 := la_lt _ _ _ _ a4
      have l2 := la_lt _ _ _ _ a8
      have b1 := rifS 0 y1 m s1 fr F R w W j (by omega) o1 o2 P.1 k6 (by omega) G1.1 (G1.2.2.1 _ rfl j rfl) hJ
      exact up ((H1 d a y1 fr F R w W a1 (by omega) h1 (by omega) h3).1 _ rfl _ b1) (by unfold am_c; omega)
    · obtain ⟨y1, a1, o1, o2, a4⟩ := hla.2.2.2.2.2 k6 q
      have b1 := rstk 0 y1 m s1 (s1, fr, F, R, w + 1, am_pw W w (.inr j)) (by omega) o1 o2 P.1 rfl hJ
      exact up ((H1 d a y1 fr F R w W a1 (by omega) h1 (by omega) h3).1 _ rfl _ b1) (by unfold am_c; omega)
  -- IF0 on a number
  · intro f env m s i s1 r s2 P S k6 A1 S1 G1 q1 A2 S2 G2 q2 qq H1 H2 d a z fr F R w W hla hz0 h1 h2 h3
    obtain ⟨d, rfl⟩ := un hla
    have hs := P.2.2.1.1
    have hl := (TL m P.1).1
    have hLL := (TL m P.1).2.2 (by omega)
    have hz := tr_k6 T1 P.1 k6
    have hc1 := G1.2.1.1
    have hc2 := G2.2.1.1
    have q := ((Cl m P.1 S.2.2).2.2.2.2.2.2.1 k6 ((q1.2 _ rfl).1 i rfl)).1
    obtain ⟨y1, x1, a1, o1, o2, a4, o3, o4, o5, a8, o6⟩ := hla.2.2.2.2.1 k6 q
    have l1 := la_lt _ _ _ _ a4
    have l2 := la_lt _ _ _ _ a8
    have I1 := (H1 d a y1 fr F R w W a1 (by omega) h1 (by omega) h3).1 _ rfl
    by_cases zi : i = 0
    · rw [if_pos zi] at H2
      have I2 := H2 d (y1 + 1) x1 fr F R w W a4 (by omega) (by omega) (by omega) h3
      refine ⟨fun v hv b hb => ?_, fun y hy hJ => ?_⟩
      · rw [← o6] at hb
        have b1 := I2.1 v hv _ (rjmp b x1 _ (by omega) o3 hb)
        have b2 := rif _ y1 m s1 fr F R w W i (by omega) o1 o2 P.1 k6 (by omega) (by rw [if_pos zi]; exact b1)
        exact up (I1 _ b2) (by unfold am_c; omega)
      · have b1 := I2.2 y hy hJ
        have b2 := rif _ y1 m s1 fr F R w W i (by omega) o1 o2 P.1 k6 (by omega) (by rw [if_pos zi]; exact b1)
        exact up (I1 _ b2) (by unfold am_c; omega)
    · rw [if_neg zi] at H2
      have hL6 := hLL.2.2 k6
      have I2 := H2 d (x1 + 1) z fr F R w W a8 hz0 (by omega) (by omega) h3
      refine ⟨fun v hv b hb => ?_, fun y hy hJ => ?_⟩
      · have b1 := I2.1 v hv b hb
        have b2 := rif _ y1 m s1 fr F R w W i (by omega) o1 o2 P.1 k6 (by omega) (by rw [if_neg zi, o5]; exact b1)
        exact up (I1 _ b2) (by unfold am_c; omega)
      · have b1 := I2.2 y hy hJ
        have b2 := rif _ y1 m s1 fr F R w W i (by omega) o1 o2 P.1 k6 (by omega) (by rw [if_neg zi, o5]; exact b1)
        exact up (I1 _ b2) (by unfold am_c; omega)
  -- an end in the second child
  · intro f env m s v s1 x s2 P S k k6 A1 S1 G1 q1 A2 S2 G2 q2 qq H1 H2 d a z fr F R w W hla hz0 h1 h2 h3
    obtain ⟨d, rfl⟩ := un hla
    have hs := P.2.2.1.1
    have hl := (TL m P.1).1
    have hLL := (TL m P.1).2.2 k
    have hz := tr_k3 T1 P.1 k k6
    have hc1 := G1.2.1.1
    have hc2 := G2.2.1.1
    obtain ⟨y1, x1, a1, a2, _, _, a5⟩ := hla.2.2.2.1 k k6
    have l1 := la_lt _ _ _ _ a2
    refine ⟨fun v h => nr h, fun y hy hJ => ?_⟩
    have b1 := (H2 d y1 x1 fr F R (w + 1) (am_pw W w v) a2 (by omega) (by omega) (by omega) h3).2 y hy hJ
    exact up ((H1 d a y1 fr F R w W a1 (by omega) h1 (by omega) h3).1 _ rfl _ b1) (by unfold am_c; omega)
  -- APP on a number
  · intro f env m s i s1 x s2 P S k A1 S1 G1 q1 A2 S2 G2 q2 qq H1 H2 d a z fr F R w W hla hz0 h1 h2 h3
    obtain ⟨d, rfl⟩ := un hla
    have hs := P.2.2.1.1
    have hl := (TL m P.1).1
    have hLL := (TL m P.1).2.2 (by omega)
    have hz := tr_k3 T1 P.1 (by omega) (by omega)
    have hl1 := (TL (m + 1) hz.1).1
    have hc1 := G1.2.1.1
    have hc2 := G2.2.1.1
    obtain ⟨y1, x1, a1, a2, o1, o2, a5⟩ := hla.2.2.2.1 (by omega) (by omega)
    have l1 := la_lt _ _ _ _ a2
    rw [if_pos k] at o1
    refine ⟨fun v h => nr h, fun y hy hJ => ?_⟩
    cases hy
    have b0 : C (0 + 2) x1 (s2, fr, F, R, w + 2, am_pw (am_pw W w (.inl i)) (w + 1) x) := by
      have hb := (q1.2 _ rfl).1 i rfl
      unfold cm_sk at o1
      by_cases z1 : t.1 m = 0 ∨ t.2.1 (m + 1) % 65536 = 0 ∨ t.2.1 (e (m + 1)) = 0
      · rw [if_pos z1] at o1
        exact rstk 0 x1 m s2 _ (by omega) o1 o2 P.1 rfl hJ
      · rw [if_neg z1] at o1
        by_cases z2 : t.2.1 (m + 1) &&& (t.2.1 (m + 1) - 1) = 0
        · exfalso
          have := cm_one _ z2 16 hb
          exact z1 (Or.inr (Or.inl (by rw [this])))
        · rw [if_neg z2] at o1
          exact rappS 0 x1 m s2 fr F R w W i x (by omega) o1 o2 P.1 k (by omega) hJ
    have b1 := (H2 d y1 x1 fr F R (w + 1) (am_pw W w (.inl i)) a2 (by omega) (by omega) (by omega) h3).1 _ rfl _ b0
    exact up ((H1 d a y1 fr F R w W a1 (by omega) h1 (by omega) h3).1 _ rfl _ b1) (by unfold am_c; omega)
  -- APP at the call limit
  · intro f env m s j s1 x s2 P S k hc A1 S1 G1 q1 A2 S2 G2 q2 qq H1 H2 d a z fr F R w W hla hz0 h1 h2 h3
    obtain ⟨d, rfl⟩ := un hla
    have hs := P.2.2.1.1
    have hl := (TL m P.1).1
    have hLL := (TL m P.1).2.2 (by omega)
    have hz := tr_k3 T1 P.1 (by omega) (by omega)
    have hl1 := (TL (m + 1) hz.1).1
    have hc1 := G1.2.1.1
    have hc2 := G2.2.1.1
    obtain ⟨y1, x1, a1, a2, o1, o2, a5⟩ := hla.2.2.2.1 (by omega) (by omega)
    have l1 := la_lt _ _ _ _ a2
    rw [if_pos k] at o1
    obtain ⟨u1, u2, u3, u4, u5, u6, u7, u8⟩ := so_at_app B Cl P S k G1 q1 G2 q2
    have hne := so_in_ne (q2.2 _ rfl)
    have hop : oc x1 = 6 ∨ oc x1 = 7 := by
      unfold cm_sk at o1
      rw [if_neg (by
        rintro (z1 | z1 | z1)
        · have := S.2.2; omega
        · rw [cm_mod z1 (show lc (s2.2.2.1 j) < 16 by omega)] at u5; cases u5
        · exact hne z1)] at o1
      by_cases z2 : t.2.1 (m + 1) &&& (t.2.1 (m + 1) - 1) = 0
      · rw [if_pos z2] at o1; exact Or.inl o1
      · rw [if_neg z2] at o1; exact Or.inr o1
    refine ⟨fun v h => nr h, fun y hy hJ => ?_⟩
    cases hy
    have b0 := rappC 0 x1 m s2 fr F R w W j x (by omega) hop o2 P.1 k (by omega) G2.1 u1 hc hJ
    have b1 := (H2 d y1 x1 fr F R (w + 1) (am_pw W w (.inr j)) a2 (by omega) (by omega) (by omega) h3).1 _ rfl _ b0
    exact up ((H1 d a y1 fr F R w W a1 (by omega) h1 (by omega) h3).1 _ rfl _ b1) (by unfold am_c; omega)
  -- APP
  · intro f env m s j s1 x s2 r s3 P S k hc A1 S1 G1 q1 A2 S2 G2 q2 A3 S3 G3 q3 qq H1 H2 H3 d a z fr F R w W hla hz0 h1 h2 h3
    obtain ⟨d, rfl⟩ := un hla
    have hs := P.2.2.1.1
    have hl := (TL m P.1).1
    have hLL := (TL m P.1).2.2 (by omega)
    have hz := tr_k3 T1 P.1 (by omega) (by omega)
    have hl1 := (TL (m + 1) hz.1).1
    have hc1 := G1.2.1.1
    have hc2 := G2.2.1.1
    have hw2 := G2.1.1
    have hc3 : s2.1 + 1 ≤ s3.1 := G3.2.1.1
    obtain ⟨y1, x1, a1, a2, o1, o2, a5⟩ := hla.2.2.2.1 (by omega) (by omega)
    have l1 := la_lt _ _ _ _ a2
    rw [if_pos k] at o1
    obtain ⟨u1, u2, u3, u4, u5, u6, u7, u8⟩ := so_at_app B Cl P S k G1 q1 G2 q2
    have hne := so_in_ne (q2.2 _ rfl)
    have hb := tr_k2 T1 u2 u3
    have hLb := (TL _ u2).2.1 u3
    have h48 := T.2.2.1
    have hop : oc x1 = 6 ∧ tg x1 = en (lc (s2.2.2.1 j)) ∨ oc x1 = 7 := by
      unfold cm_sk at o1
      rw [if_neg (by
        rintro (z1 | z1 | z1)
        · have := S.2.2; omega
        · rw [cm_mod z1 (show lc (s2.2.2.1 j) < 16 by omega)] at u5; cases u5
        · exact hne z1)] at o1
      by_cases z2 : t.2.1 (m + 1) &&& (t.2.1 (m + 1) - 1) = 0
      · rw [if_pos z2] at o1
        exact Or.inl ⟨o1, G.2 x1 (by omega) o1 _ u4 (by rw [o2]; exact cm_one _ z2 _ u5)⟩
      · rw [if_neg z2] at o1; exact Or.inr o1
    obtain ⟨d3, z3, la3, z3c, o9⟩ := G.1 _ u2 u3 u6
    have hNe : N (nd (en (lc (s2.2.2.1 j)))) = N (s2.2.2.1 j) + 1 := by
      have xx := (la_N T1 T.2.1 cm_sk_in T4 d3 _ _ _ hb.1 la3 _ (Nat.le_refl _) (la_lt _ _ _ _ la3)).2.1
      rw [xx]
      exact (T.2.1 _ u2).1 u3
    have hcost : am_c e (s2.2.2.1 j + 1) (ev_call bm m j s2) s3 + am_c e (e (m + 1)) s1 s2 + am_c e (m + 1) s s1 + 4 ≤ am_c e m s s3 := by
      show 3 * (e (s2.2.2.1 j + 1) - (s2.2.2.1 j + 1)) + 145 * (s3.1 - (s2.1 + 1)) + (3 * (e (e (m + 1)) - e (m + 1)) + 145 * (s2.1 - s1.1)) + (3 * (e (m + 1) - (m + 1)) + 145 * (s1.1 - s.1)) + 4 ≤ 3 * (e m - m) + 145 * (s3.1 - s.1)
      omega
    have I3 := H3 d3 _ z3 (fr + 1) (am_pf F (fr + 1) (ev_env N j x s2)) (tr_put R (fr + 1) (x1 + 1)) w W la3 (by omega) (show fr + 1 ≤ s2.1 + 1 by omega) (by omega) (am_pf_s _ _ _)
    have I2 := (H2 d y1 x1 fr F R (w + 1) (am_pw W w (.inr j)) a2 (by omega) (by omega) (by omega) h3).1 _ rfl
    have I1 := (H1 d a y1 fr F R w W a1 (by omega) h1 (by omega) h3).1 _ rfl
    refine ⟨fun v hv b hb => ?_, fun y hy hJ => ?_⟩
    · rw [a5] at hb
      have c0 := rret b z3 (x1 + 1) s3 fr F R (w + 1) (am_pw W w v) (ev_env N j x s2) z3c o9 (by omega) hb
      have c1 := I3.1 v hv _ c0
      have c2 := rapp _ x1 m s2 fr F R w W j x (by omega) hop o2 P.1 k (by omega) (by omega) G2.1 u1 (G2.2.2.1 _ rfl) hc hNe c1
      exact up (I1 _ (I2 _ c2)) (by omega)
    · have c1 := I3.2 y hy hJ
      have c2 := rapp _ x1 m s2 fr F R w W j x (by omega) hop o2 P.1 k (by omega) (by omega) G2.1 u1 (G2.2.2.1 _ rfl) hc hNe c1
      exact up (I1 _ (I2 _ c2)) (by omega)
  -- ADD, SUB
  · intro f env m s i s1 j s2 P S k A1 S1 G1 q1 A2 S2 G2 q2 qq H1 H2 d a z fr F R w W hla hz0 h1 h2 h3
    obtain ⟨d, rfl⟩ := un hla
    have hs := P.2.2.1.1
    have hl := (TL m P.1).1
    have hLL := (TL m P.1).2.2 (by omega)
    have hz := tr_k3 T1 P.1 (by omega) (by omega)
    have hl1 := (TL (m + 1) hz.1).1
    have hc1 := G1.2.1.1
    have hc2 := G2.2.1.1
    obtain ⟨y1, x1, a1, a2, o1, o2, a5⟩ := hla.2.2.2.1 (by omega) (by omega)
    have l1 := la_lt _ _ _ _ a2
    rw [if_neg (show ¬ K m = 3 by omega)] at o1
    refine ⟨fun v hv b hb => ?_, fun x h => nl h⟩
    cases hv
    rw [a5] at hb
    have b0 := rsum b x1 m s2 fr F R w W i j (by omega) o1 o2 P.1 k (by omega) hb
    have b1 := (H2 d y1 x1 fr F R (w + 1) (am_pw W w (.inl i)) a2 (by omega) (by omega) (by omega) h3).1 _ rfl _ b0
    exact up ((H1 d a y1 fr F R w W a1 (by omega) h1 (by omega) h3).1 _ rfl _ b1) (by unfold am_c; omega)
  · intro f env m s v s1 x s2 P S k hv A1 S1 G1 q1 A2 S2 G2 q2 qq H1 H2 d a z fr F R w W hla hz0 h1 h2 h3
    obtain ⟨d, rfl⟩ := un hla
    have hs := P.2.2.1.1
    have hl := (TL m P.1).1
    have hLL := (TL m P.1).2.2 (by omega)
    have hz := tr_k3 T1 P.1 (by omega) (by omega)
    have hl1 := (TL (m + 1) hz.1).1
    have hc1 := G1.2.1.1
    have hc2 := G2.2.1.1
    obtain ⟨y1, x1, a1, a2, o1, o2, a5⟩ := hla.2.2.2.1 (by omega) (by omega)
    have l1 := la_lt _ _ _ _ a2
    rw [if_neg (show ¬ K m = 3 by omega)] at o1
    refine ⟨fun v h => nr h, fun y hy hJ => ?_⟩
    cases hy
    have b0 := rsumS 0 x1 m s2 fr F R w W v x (by omega) o1 o2 P.1 k (by omega) G2.1 (ev_ok_up (G1.2.2.1 _ rfl) G2.2.1.2.1) (G2.2.2.1 _ rfl) hv hJ
    have b1 := (H2 d y1 x1 fr F R (w + 1) (am_pw W w v) a2 (by omega) (by omega) (by omega) h3).1 _ rfl _ b0
    exact up ((H1 d a y1 fr F R w W a1 (by omega) h1 (by omega) h3).1 _ rfl _ b1) (by unfold am_c; omega)
end
end
section
/-! ===== the walk that begins anew at the root after every cell: tables by cell (activation * 48 + node) ===== -/
/-- calls, closures, done, fn, val, entered, bind, called masks -/
abbrev yw_S : Type := Nat × Nat × (Nat → Nat) × (Nat → Int32) × (Nat → Int32) × (Nat → Nat) × (Nat → Nat) × (Nat → Int32)
abbrev yw_dn (T : yw_S) : Nat → Nat := T.2.2.1
abbrev yw_fn (T : yw_S) : Nat → Int32 := T.2.2.2.1
abbrev yw_vl (T : yw_S) : Nat → Int32 := T.2.2.2.2.1
abbrev yw_et (T : yw_S) : Nat → Nat := T.2.2.2.2.2.1
abbrev yw_bi (T : yw_S) : Nat → Nat := T.2.2.2.2.2.2.1
abbrev yw_cs (T : yw_S) : Nat → Int32 := T.2.2.2.2.2.2.2
def yw_fin (q : Nat) (x y : Int32) (T : yw_S) : yw_S := (T.1, T.2.1, tr_put (yw_dn T) q 1, (fun j => if j = q then x else yw_fn T j), (fun j => if j = q then y else yw_vl T j), yw_et T, yw_bi T, yw_cs T)
def yw_inc (T : yw_S) : yw_S := (T.1, T.2.1 + 1, T.2.2)
/-- a call: the new activation has the bindings of A', and cell q at lambda l -/
def yw_call (bm : Nat → Int32) (m at' A' l q p : Nat) (T : yw_S) : yw_S := (T.1 + 1, T.2.1, yw_dn T, yw_fn T, yw_vl T, tr_put (yw_et T) at' ((T.1 + 1) * 48 + (p + 1)), (fun j => if j = (T.1 + 1) * 16 + l then q else if (T.1 + 1) * 16 ≤ j ∧ j < (T.1 + 1) * 16 + 16 then yw_bi T (A' * 16 + (j - (T.1 + 1) * 16)) else yw_bi T j), (fun j => if j = m then yw_cs T m ||| bm p else yw_cs T j))
def yw_R (K e bl lc : Nat → Nat) (op bm : Nat → Int32) (cl cm n : Nat) (Y : Nat → Nat → yw_S → Prop) (JV : yw_S → Prop) (JX : Nat × Nat → yw_S → Prop) : Prop :=
  (∀ b d q T, Y b q T → Y (b + d) q T) ∧
  (∀ b A m T, A ≤ 48 → m < n → 3 ≤ K m → yw_dn T (A * 48 + (m + 1)) = 0 → Y b (A * 48 + (m + 1)) T → Y (b + 1) (A * 48 + m) T) ∧
  (∀ b A m T, A ≤ 48 → m < n → 3 ≤ K m → K m ≠ 6 → yw_dn T (A * 48 + (m + 1)) = 1 → yw_dn T (A * 48 + e (m + 1)) = 0 → Y b (A * 48 + e (m + 1)) T → Y (b + 1) (A * 48 + m) T) ∧
  (∀ b A m T i, A ≤ 48 → m < n → K m = 6 → yw_dn T (A * 48 + (m + 1)) = 1 → yw_fn T (A * 48 + (m + 1)) = -1 → yw_vl T (A * 48 + (m + 1)) = i → yw_dn T (A * 48 + (if i = 0 then e (m + 1) else e (e (m + 1)))) = 0 → Y b (A * 48 + (if i = 0 then e (m + 1) else e (e (m + 1)))) T → Y (b + 1) (A * 48 + m) T) ∧
  (∀ b A m T q, A ≤ 48 → m < n → K m = 3 → yw_dn T (A * 48 + (m + 1)) = 1 → yw_dn T (A * 48 + e (m + 1)) = 1 → yw_et T (A * 48 + m) = q → 0 < q → q < 2352 → yw_dn T q = 0 → Y b q T → Y (b + 1) (A * 48 + m) T) ∧
  -- cells that get their value
  (∀ b A m T q, A ≤ 48 → m < n → K m = 0 → (A * 48 + m ≠ 0 → yw_dn T 0 = 0) → yw_bi T (A * 16 + bl m) = q → q < 2352 → ((A * 48 + m = 0 → JV (yw_fin (A * 48 + m) (yw_fn T q) (yw_vl T q) T)) ∧ (A * 48 + m ≠ 0 → Y b 0 (yw_fin (A * 48 + m) (yw_fn T q) (yw_vl T q) T))) → Y (b + 1) (A * 48 + m) T) ∧
  (∀ b A m T, A ≤ 48 → m < n → K m = 1 → (A * 48 + m ≠ 0 → yw_dn T 0 = 0) → ((A * 48 + m = 0 → JV (yw_fin (A * 48 + m) (-1) (op m) T)) ∧ (A * 48 + m ≠ 0 → Y b 0 (yw_fin (A * 48 + m) (-1) (op m) T))) → Y (b + 1) (A * 48 + m) T) ∧
  (∀ b A m T, A ≤ 48 → m < n → K m = 2 → T.2.1 = cm → JX (5, m) T → Y (b + 1) (A * 48 + m) T) ∧
  (∀ b A m T, A ≤ 48 → m < n → K m = 2 → (A * 48 + m ≠ 0 → yw_dn T 0 = 0) → T.2.1 < cm → ((A * 48 + m = 0 → JV (yw_fin (A * 48 + m) (nI (lc m)) (nI A) (yw_inc T))) ∧ (A * 48 + m ≠ 0 → Y b 0 (yw_fin (A * 48 + m) (nI (lc m)) (nI A) (yw_inc T)))) → Y (b + 1) (A * 48 + m) T) ∧
  (∀ b A m T l, A ≤ 48 → m < n → K m = 6 → yw_dn T (A * 48 + (m + 1)) = 1 → yw_fn T (A * 48 + (m + 1)) = nI l → l < 16 → JX (3, m) T → Y (b + 1) (A * 48 + m) T) ∧
  (∀ b A m T i q, A ≤ 48 → m < n → K m = 6 → (A * 48 + m ≠ 0 → yw_dn T 0 = 0) → yw_dn T (A * 48 + (m + 1)) = 1 → yw_fn T (A * 48 + (m + 1)) = -1 → yw_vl T (A * 48 + (m + 1)) = i → q = A * 48 + (if i = 0 then e (m + 1) else e (e (m + 1))) → yw_dn T q = 1 → ((A * 48 + m = 0 → JV (yw_fin (A * 48 + m) (yw_fn T q) (yw_vl T q) T)) ∧ (A * 48 + m ≠ 0 → Y b 0 (yw_fin (A * 48 + m) (yw_fn T q) (yw_vl T q) T))) → Y (b + 1) (A * 48 + m) T) ∧
  (∀ b A m T, A ≤ 48 → m < n → (K m = 4 ∨ K m = 5) → (A * 48 + m ≠ 0 → yw_dn T 0 = 0) → yw_dn T (A * 48 + (m + 1)) = 1 → yw_dn T (A * 48 + e (m + 1)) = 1 → yw_fn T (A * 48 + (m + 1)) = -1 → yw_fn T (A * 48 + e (m + 1)) = -1 → ((A * 48 + m = 0 → JV (yw_fin (A * 48 + m) (-1) (if K m = 4 then yw_vl T (A * 48 + (m + 1)) + yw_vl T (A * 48 + e (m + 1)) else yw_vl T (A * 48 + (m + 1)) - yw_vl T (A * 48 + e (m + 1))) T)) ∧ (A * 48 + m ≠ 0 → Y b 0 (yw_fin (A * 48 + m) (-1) (if K m = 4 then yw_vl T (A * 48 + (m + 1)) + yw_vl T (A * 48 + e (m + 1)) else yw_vl T (A * 48 + (m + 1)) - yw_vl T (A * 48 + e (m + 1))) T))) → Y (b + 1) (A * 48 + m) T) ∧
  (∀ b A m T, A ≤ 48 → m < n → (K m = 4 ∨ K m = 5) → yw_dn T (A * 48 + (m + 1)) = 1 → yw_dn T (A * 48 + e (m + 1)) = 1 → ((∃ l, l < 16 ∧ yw_fn T (A * 48 + (m + 1)) = nI l) ∨ (yw_fn T (A * 48 + (m + 1)) = -1 ∧ ∃ l, l < 16 ∧ yw_fn T (A * 48 + e (m + 1)) = nI l)) → JX (3, m) T → Y (b + 1) (A * 48 + m) T) ∧
  (∀ b A m T, A ≤ 48 → m < n → K m = 3 → yw_dn T (A * 48 + (m + 1)) = 1 → yw_dn T (A * 48 + e (m + 1)) = 1 → yw_et T (A * 48 + m) = 0 → yw_fn T (A * 48 + (m + 1)) = -1 → JX (3, m) T → Y (b + 1) (A * 48 + m) T) ∧
  (∀ b A m T l, A ≤ 48 → m < n → K m = 3 → yw_dn T (A * 48 + (m + 1)) = 1 → yw_dn T (A * 48 + e (m + 1)) = 1 → yw_et T (A * 48 + m) = 0 → yw_fn T (A * 48 + (m + 1)) = nI l → l < 16 → T.1 = cl → JX (4, m) T → Y (b + 1) (A * 48 + m) T) ∧
  (∀ b A m T p A', A ≤ 48 → m < n → K m = 3 → yw_dn T (A * 48 + (m + 1)) = 1 → yw_dn T (A * 48 + e (m + 1)) = 1 → yw_et T (A * 48 + m) = 0 → p < n → K p = 2 → yw_fn T (A * 48 + (m + 1)) = nI (lc p) → yw_vl T (A * 48 + (m + 1)) = nI A' → A' ≤ 48 → T.1 < cl → yw_dn T 0 = 0 → yw_dn T (A * 48 + m) = 0 → Y b 0 (yw_call bm m (A * 48 + m) A' (lc p) (A * 48 + e (m + 1)) p T) → Y (b + 1) (A * 48 + m) T) ∧
  (∀ b A m T q l, A ≤ 48 → m < n → K m = 3 → (A * 48 + m ≠ 0 → yw_dn T 0 = 0) → yw_dn T (A * 48 + (m + 1)) = 1 → yw_dn T (A * 48 + e (m + 1)) = 1 → yw_et T (A * 48 + m) = q → 0 < q → q < 2352 → yw_dn T q = 1 → yw_dn T (A * 48 + m) = 0 → yw_fn T (A * 48 + (m + 1)) = nI l → l < 16 → ((A * 48 + m = 0 → JV (yw_fin (A * 48 + m) (yw_fn T q) (yw_vl T q) T)) ∧ (A * 48 + m ≠ 0 → Y b 0 (yw_fin (A * 48 + m) (yw_fn T q) (yw_vl T q) T))) → Y (b + 1) (A * 48 + m) T)
/-! ghosts: kap tells the activation of a closure -/
def yw_v (lc : Nat → Nat) (s : ev_S) (kap : Nat → Nat) (v : ev_V) (x y : Int32) : Prop := (∀ i, v = .inl i → x = -1 ∧ y = i) ∧ (∀ k, v = .inr k → x = nI (lc (s.2.2.1 k)) ∧ y = nI (kap k))
def yw_E (K N lc : Nat → Nat) (sc : Nat → Nat → Bool) (n : Nat) (s : ev_S) (kap : Nat → Nat) (T : yw_S) (A m : Nat) (env : Nat → ev_V) : Prop := ∀ b, b < n → K b = 2 → sc m (lc b) = true → yw_bi T (A * 16 + lc b) < 2352 ∧ yw_dn T (yw_bi T (A * 16 + lc b)) = 1 ∧ yw_v lc s kap (env (N b)) (yw_fn T (yw_bi T (A * 16 + lc b))) (yw_vl T (yw_bi T (A * 16 + lc b)))
def yw_Q (K N lc : Nat → Nat) (sc : Nat → Nat → Bool) (n : Nat) (s : ev_S) (kap : Nat → Nat) (T : yw_S) : Prop := T.1 = s.1 ∧ T.2.1 = s.2.1 ∧ yw_cs T = s.2.2.2.2 ∧ ∀ k, k < s.2.1 → kap k ≤ s.1 ∧ yw_E K N lc sc n s kap T (kap k) (s.2.2.1 k) (s.2.2.2.1 k)
/-- activations behind c are untouched -/
def yw_G (c : Nat) (T : yw_S) : Prop := ∀ A m, c < A → A ≤ 48 → m < 48 → yw_dn T (A * 48 + m) = 0 ∧ yw_et T (A * 48 + m) = 0
/-- the cells of [lo, hi) in activation A are untouched -/
def yw_F (A lo hi : Nat) (T : yw_S) : Prop := ∀ m, lo ≤ m → m < hi → yw_dn T (A * 48 + m) = 0 ∧ yw_et T (A * 48 + m) = 0
/-- nothing has changed but in [lo, hi) of activation A, and behind c -/
def yw_same (A lo hi c : Nat) (T T' : yw_S) : Prop := (∀ A' m, A' ≤ c → m < 48 → ¬ (A' = A ∧ lo ≤ m ∧ m < hi) → yw_dn T' (A' * 48 + m) = yw_dn T (A' * 48 + m) ∧ yw_fn T' (A' * 48 + m) = yw_fn T (A' * 48 + m) ∧ yw_vl T' (A' * 48 + m) = yw_vl T (A' * 48 + m) ∧ yw_et T' (A' * 48 + m) = yw_et T (A' * 48 + m)) ∧ (∀ A' l, A' ≤ c → l < 16 → yw_bi T' (A' * 16 + l) = yw_bi T (A' * 16 + l))
theorem yw_same_r (A lo hi c : Nat) (T : yw_S) : yw_same A lo hi c T T := ⟨fun _ _ _ _ _ => ⟨rfl, rfl, rfl, rfl⟩, fun _ _ _ _ => rfl⟩
theorem yw_same_t {A lo hi c lo1 hi1 lo2 hi2 c2 : Nat} {T T1 T2 : yw_S} (h : yw_same A lo1 hi1 c T T1) (g : yw_same A lo2 hi2 c2 T1 T2) (hc : c ≤ c2) (a1 : lo ≤ lo1) (a2 : hi1 ≤ hi) (a3 : lo ≤ lo2) (a4 : hi2 ≤ hi) : yw_same A lo hi c T T2 := by
  refine ⟨fun A' m x y z => ?_, fun A' l x y => ?_⟩
  · obtain ⟨p1, p2, p3, p4⟩ := h.1 A' m x y (fun w => z ⟨w.1, by omega, by omega⟩)
    obtain ⟨q1, q2, q3, q4⟩ := g.1 A' m (by omega) y (fun w => z ⟨w.1, by omega, by omega⟩)
    exact ⟨q1.trans p1, q2.trans p2, q3.trans p3, q4.trans p4⟩
  · exact (g.2 A' l (by omega) y).trans (h.2 A' l x y)
/-- what happens in a later activation leaves the earlier ones alone -/
theorem yw_same_b {A B lo hi c c2 l h : Nat} {T T' : yw_S} (g : yw_same B lo hi c2 T T') (hc : c ≤ c2) (hB : c < B) : yw_same A l h c T T' :=
  ⟨fun A' m x y _ => g.1 A' m (by omega) y (fun w => by omega), fun A' l x y => g.2 A' l (by omega) y⟩
/-- a done cell stays as it is -/
theorem yw_stay {A lo hi c q : Nat} {T T' : yw_S} (h : yw_same A lo hi c T T') (F : ∀ m, lo ≤ m → m < hi → yw_dn T (A * 48 + m) = 0) (G : yw_G c T) (hq : q < 2352) (d : yw_dn T q = 1) : yw_dn T' q = 1 ∧ yw_fn T' q = yw_fn T q ∧ yw_vl T' q = yw_vl T q := by
  have e : q / 48 * 48 + q % 48 = q := by omega
  have hm : q % 48 < 48 := by omega
  have hA : q / 48 ≤ 48 := by omega
  rcases Nat.lt_or_ge c (q / 48) with z | z
  · have := (G (q / 48) (q % 48) z hA hm).1
    rw [e, d] at this
    cases this
  · by_cases y : q / 48 = A ∧ lo ≤ q % 48 ∧ q % 48 < hi
    · have := F (q % 48) y.2.1 y.2.2
      rw [← y.1, e, d] at this
      cases this
    · obtain ⟨p1, p2, p3, _⟩ := h.1 (q / 48) (q % 48) z hm y
      rw [e] at p1 p2 p3
      exact ⟨p1.trans d, p2, p3⟩
section
variable {K e N ix bl lc bd : Nat → Nat} {sc : Nat → Nat → Bool} {op bm : Nat → Int32} {cl cm n L : Nat}
theorem yw_v_up {s s' : ev_S} {kap kap' : Nat → Nat} {v : ev_V} {x y : Int32} (h : yw_v lc s kap v x y) (X : ev_X s s') (hk : ∀ k, k < s.2.1 → kap' k = kap k) (o : ev_ok s.2.1 v) : yw_v lc s' kap' v x y :=
  ⟨h.1, fun k e => by rw [(X.2.2 k (o k e)).1, hk k (o k e)]; exact h.2 k e⟩
theorem yw_E_up (B : so_B K e N ix bl lc bd sc n L) (hL : L ≤ 16) {s s' : ev_S} {kap kap' : Nat → Nat} {T T' : yw_S} {A A1 lo hi c m m' : Nat} {env : Nat → ev_V} (h : yw_E K N lc sc n s kap T A m env) (hm : m < n) (hs : ∀ l, sc m' l = sc m l) (X : ev_X s s') (hk : ∀ k, k < s.2.1 → kap' k = kap k) (o : ev_E N m env s) (hA : A ≤ c) (S : yw_same A1 lo hi c T T') (F : ∀ m, lo ≤ m → m < hi → yw_dn T (A1 * 48 + m) = 0) (G : yw_G c T) : yw_E K N lc sc n s' kap' T' A m' env := by
  intro b hb kb z
  rw [hs] at z
  obtain ⟨p1, p2, p3⟩ := h b hb kb z
  have hl := (B.2.2.1 b hb kb).2
  rw [S.2 A (lc b) hA (by omega)]
  obtain ⟨r1, r2, r3⟩ := yw_stay S F G p1 p2
  rw [r2, r3]
  exact ⟨p1, r1, yw_v_up p3 X hk (o _ (B.2.2.2.2.1 m hm b hb kb z))⟩
/-- the closures of a state under a change elsewhere -/
theorem yw_Q_up (B : so_B K e N ix bl lc bd sc n L) (hL : L ≤ 16) {s : ev_S} {kap : Nat → Nat} {T T' : yw_S} {A lo hi : Nat} (W : ev_W K N n cl cm s) (Q : yw_Q K N lc sc n s kap T) (S : yw_same A lo hi s.1 T T') (F : ∀ m, lo ≤ m → m < hi → yw_dn T (A * 48 + m) = 0) (G : yw_G s.1 T) (c1 : T'.1 = T.1) (c2 : T'.2.1 = T.2.1) (c3 : yw_cs T' = yw_cs T) : yw_Q K N lc sc n s kap T' := by
  refine ⟨c1.trans Q.1, c2.trans Q.2.1, c3.trans Q.2.2.1, fun k hk => ?_⟩
  obtain ⟨a1, a2⟩ := Q.2.2.2 k hk
  obtain ⟨w1, w2, w3⟩ := W.2.2 k hk
  exact ⟨a1, yw_E_up B hL a2 w1 (fun _ => rfl) (ev_X_r s) (fun _ _ => rfl) w3 a1 S F G⟩
end
end
section
/-! ===== the restarting walk does what the evaluator does ===== -/
def yw_c (e : Nat → Nat) (m : Nat) (s s' : ev_S) : Nat := 294 * ((e m - m) + 49 * (s'.1 - s.1))
def yw_M (K e N Lv lc : Nat → Nat) (sc : Nat → Nat → Bool) (n : Nat) (Y : Nat → Nat → yw_S → Prop) (JV : yw_S → Prop) (JX : Nat × Nat → yw_S → Prop) (env : Nat → ev_V) (m : Nat) (s : ev_S) (r : ev_R) (s' : ev_S) : Prop :=
  ∀ A T kap D, A ≤ s.1 → yw_Q K N lc sc n s kap T → yw_E K N lc sc n s kap T A m env → yw_F A m (e m) T → yw_G s.1 T → yw_dn T 0 = 0 → D ≤ 6 * A + Lv m →
    (∀ T' b, yw_same A m (e m) s.1 T T' → yw_dn T' (A * 48 + m) = 0 → Y b (A * 48 + m) T' → Y (b + D) 0 T') →
    (∀ v, r = .inl v → ∀ b, (∀ T' kap', yw_Q K N lc sc n s' kap' T' → (∀ k, k < s.2.1 → kap' k = kap k) → yw_same A m (e m) s.1 T T' → yw_G s'.1 T' → yw_dn T' (A * 48 + m) = 1 → yw_v lc s' kap' v (yw_fn T' (A * 48 + m)) (yw_vl T' (A * 48 + m)) → (A * 48 + m = 0 → JV T') ∧ (A * 48 + m ≠ 0 → Y b 0 T')) → Y (b + yw_c e m s s') 0 T) ∧
    (∀ x, r = .inr x → (∀ T', T'.1 = s'.1 → T'.2.1 = s'.2.1 → yw_cs T' = s'.2.2.2.2 → JX x T') → Y (yw_c e m s s') 0 T)
theorem yw_cell {A A' m m' : Nat} (h : m < 48) (h' : m' < 48) (z : A' * 48 + m' = A * 48 + m) : A' = A ∧ m' = m := by omega
section
variable {K e N Lv ix bl lc bd : Nat → Nat} {sc : Nat → Nat → Bool} {op bm : Nat → Int32} {cl cm n L : Nat}
theorem yw_fin_at (q : Nat) (x y : Int32) (T : yw_S) : yw_dn (yw_fin q x y T) q = 1 ∧ yw_fn (yw_fin q x y T) q = x ∧ yw_vl (yw_fin q x y T) q = y := ⟨if_pos rfl, if_pos rfl, if_pos rfl⟩
theorem yw_fin_same {A m hi c : Nat} (h48 : m < 48) (hlt : m < hi) (x y : Int32) (T : yw_S) : yw_same A m hi c T (yw_fin (A * 48 + m) x y T) := by
  refine ⟨fun A' m' a b z => ?_, fun _ _ _ _ => rfl⟩
  have ne : A' * 48 + m' ≠ A * 48 + m := fun w => by
    obtain ⟨w1, w2⟩ := yw_cell h48 b w
    exact z ⟨w1, by omega, by omega⟩
  exact ⟨if_neg ne, if_neg ne, if_neg ne, rfl⟩
theorem yw_fin_G {A m c : Nat} (h48 : m < 48) (hA : A ≤ c) (x y : Int32) {T : yw_S} (G : yw_G c T) : yw_G c (yw_fin (A * 48 + m) x y T) := by
  intro A' m' a b d
  have ne : A' * 48 + m' ≠ A * 48 + m := fun w => by
    obtain ⟨w1, w2⟩ := yw_cell h48 d w
    omega
  exact ⟨(if_neg ne).trans (G A' m' a b d).1, (G A' m' a b d).2⟩
/-- a cell gets its value -/
theorem yw_done (B : so_B K e N ix bl lc bd sc n L) (hL : L ≤ 16) {s2 : ev_S} {kap : Nat → Nat} {T T2 : yw_S} {A m hi c : Nat} (W : ev_W K N n cl cm s2) (Q : yw_Q K N lc sc n s2 kap T2) (G : yw_G s2.1 T2) (hA : A ≤ c) (hc : c ≤ s2.1) (h48 : m < 48) (hlt : m < hi) (d : yw_dn T2 (A * 48 + m) = 0) (S : yw_same A m hi c T T2) (x y : Int32) : yw_Q K N lc sc n s2 kap (yw_fin (A * 48 + m) x y T2) ∧ yw_same A m hi c T (yw_fin (A * 48 + m) x y T2) ∧ yw_G s2.1 (yw_fin (A * 48 + m) x y T2) := by
  have S2 := yw_fin_same (c := s2.1) h48 (Nat.lt_succ_self m) x y T2 (A := A)
  refine ⟨yw_Q_up B hL W Q S2 (fun j a b => ?_) G rfl rfl rfl, yw_same_t S (yw_fin_same (c := c) h48 hlt x y T2) (Nat.le_refl c) (Nat.le_refl _) (Nat.le_refl _) (Nat.le_refl _) (Nat.le_refl _), yw_fin_G h48 (by omega) x y G⟩
  have : j = m := by omega
  rw [this]; exact d
theorem yw_run {Y : Nat → Nat → yw_S → Prop} {JV : yw_S → Prop} {JX : Nat × Nat → yw_S → Prop} (T0 : ev_T K e N ix n) (TL : tr_L K e Lv n) (hcl : cl ≤ 48) (hL : L ≤ 16) (B : so_B K e N ix bl lc bd sc n L) (Ru : yw_R K e bl lc op bm cl cm n Y JV JX) :
    ∀ f env m s, ev_Pre K e N n cl cm f env m s → yw_M K e N Lv lc sc n Y JV JX env m s (ev_al K e N ix op bm cl cm f env m s).1 (ev_al K e N ix op bm cl cm f env m s).2 := by
  intro f env m s P0
  have up : ∀ {b d q : Nat} {T : yw_S}, Y b q T → b ≤ d → Y d q T := fun {b d q T} h hd => by
    have := Ru.1 b (d - b) q T h
    rwa [Nat.add_sub_cancel' hd] at this
  obtain ⟨_, w1, w2, w2i, w3, rvar, rnum, rlamF, rlam, rifS, rif, rsum, rsumS, rappS, rappC, rapp, rappR⟩ := Ru
  have T1 := T0.1
  have h48 := T0.2.2.1
  have T4 := T0.2.2.2.1
  have nl : ∀ {P : Prop} {v : ev_V} {x : Nat × Nat}, (Sum.inl v : ev_R) = .inr x → P := fun e => nomatch e
  have nr : ∀ {P : Prop} {v : ev_V} {x : Nat × Nat}, (Sum.inr x : ev_R) = .inl v → P := fun e => nomatch e
  -- the way to the first child
  have ctx1 : ∀ A m T c D, A ≤ c → c ≤ 48 → m < n → 3 ≤ K m → e (m + 1) ≤ e m → yw_dn T (A * 48 + m) = 0 → (∀ T' b, yw_same A m (e m) c T T' → yw_dn T' (A * 48 + m) = 0 → Y b (A * 48 + m) T' → Y (b + D) 0 T') → ∀ T' b, yw_same A (m + 1) (e (m + 1)) c T T' → yw_dn T' (A * 48 + (m + 1)) = 0 → Y b (A * 48 + (m + 1)) T' → Y (b + (D + 1)) 0 T' := by
    intro A m T c D hA hc hm k he d0 Ctx T' b S d h
    have e1 := (S.1 A m hA (by omega) (fun w => by omega)).1
    have h1 := w1 b A m T' (by omega) hm k d h
    have h2 := Ctx T' (b + 1) (yw_same_t (yw_same_r A m (e m) c T) S (Nat.le_refl c) (Nat.le_refl _) (Nat.le_refl _) (by omega) he) (by rw [e1]; exact d0) h1
    exact up h2 (by omega)
  have keep : ∀ {A lo hi c : Nat} {T T' : yw_S} (m : Nat), yw_same A lo hi c T T' → A ≤ c → m < 48 → (m < lo ∨ hi ≤ m) → yw_dn T' (A * 48 + m) = yw_dn T (A * 48 + m) ∧ yw_fn T' (A * 48 + m) = yw_fn T (A * 48 + m) ∧ yw_vl T' (A * 48 + m) = yw_vl T (A * 48 + m) ∧ yw_et T' (A * 48 + m) = yw_et T (A * 48 + m) := fun m S hA hm h => S.1 _ m hA hm (fun w => by omega)
  -- cell 0 stays open while a cell behind the root is at work
  have zero : ∀ {A lo hi c : Nat} {T T' : yw_S}, yw_same A lo hi c T T' → 0 < lo → yw_dn T 0 = 0 → yw_dn T' 0 = 0 := fun {A lo hi c T T'} S h d => by
    have := (S.1 0 0 (Nat.zero_le _) (by omega) (fun w => by omega)).1
    have this' : yw_dn T' 0 = yw_dn T 0 := this
    rw [this', d]
  -- the way to the second child
  have ctx2 : ∀ A m T T2 c c2 D, A ≤ c → c ≤ c2 → c2 ≤ 48 → m < n → 3 ≤ K m → K m ≠ 6 → yw_dn T (A * 48 + m) = 0 → yw_same A (m + 1) (e (m + 1)) c T T2 → yw_dn T2 (A * 48 + (m + 1)) = 1 → (∀ T' b, yw_same A m (e m) c T T' → yw_dn T' (A * 48 + m) = 0 → Y b (A * 48 + m) T' → Y (b + D) 0 T') → ∀ T' b, yw_same A (e (m + 1)) (e (e (m + 1))) c2 T2 T' → yw_dn T' (A * 48 + e (m + 1)) = 0 → Y b (A * 48 + e (m + 1)) T' → Y (b + (D + 1)) 0 T' := by
    intro A m T T2 c c2 D hA hc hc2 hm k k6 d0 S1 d1 Ctx T' b S d h
    have hz := tr_k3 T1 hm k k6
    have e1 := (keep m S1 hA (by omega) (by omega)).1
    have e2 := (keep m S (by omega) (by omega) (by omega)).1
    have e3 := (keep (m + 1) S (by omega) (by omega) (by omega)).1
    have h1 := w2 b A m T' (by omega) hm k k6 (by rw [e3]; exact d1) d h
    have h2 := Ctx T' (b + 1) (yw_same_t S1 S hc (by omega) (by omega) (by omega) (by omega)) (by rw [e2, e1]; exact d0) h1
    exact up h2 (by omega)
  -- the way to a branch
  have ctxi : ∀ A m T T2 c c2 D (i : Int32), A ≤ c → c ≤ c2 → c2 ≤ 48 → m < n → K m = 6 → yw_dn T (A * 48 + m) = 0 → yw_same A (m + 1) (e (m + 1)) c T T2 → yw_dn T2 (A * 48 + (m + 1)) = 1 → yw_fn T2 (A * 48 + (m + 1)) = -1 → yw_vl T2 (A * 48 + (m + 1)) = i → (∀ T' b, yw_same A m (e m) c T T' → yw_dn T' (A * 48 + m) = 0 → Y b (A * 48 + m) T' → Y (b + D) 0 T') → ∀ T' b, yw_same A (if i = 0 then e (m + 1) else e (e (m + 1))) (e (if i = 0 then e (m + 1) else e (e (m + 1)))) c2 T2 T' → yw_dn T' (A * 48 + (if i = 0 then e (m + 1) else e (e (m + 1)))) = 0 → Y b (A * 48 + (if i = 0 then e (m + 1) else e (e (m + 1)))) T' → Y (b + (D + 1)) 0 T' := by
    intro A m T T2 c c2 D i hA hc hc2 hm k6 d0 S1 d1 f1 v1 Ctx T' b S d h
    have hz := tr_k6 T1 hm k6
    have hb : e (m + 1) ≤ (if i = 0 then e (m + 1) else e (e (m + 1))) ∧ e (if i = 0 then e (m + 1) else e (e (m + 1))) ≤ e m := by
      by_cases z : i = 0
      · rw [if_pos z]; omega
      · rw [if_neg z]; omega
    have e1 := (keep m S1 hA (by omega) (by omega)).1
    have e2 := (keep m S (by omega) (by omega) (by omega)).1
    obtain ⟨e3, e4, e5, _⟩ := keep (m + 1) S (by omega) (by omega) (by omega)
    have h1 := w2i b A m T' i (by omega) hm k6 (by rw [e3]; exact d1) (by rw [e4]; exact f1) (by rw [e5]; exact v1) d h
    have h2 := Ctx T' (b + 1) (yw_same_t S1 S hc (by omega) (by omega) (by omega) (by omega)) (by rw [e2, e1]; exact d0) h1
    exact up h2 (by omega)
  -- bindings for a child
  have envc : ∀ {s s' : ev_S} {kap kap' : Nat → Nat} {T T' : yw_S} {A m c' lo hi : Nat} {env : Nat → ev_V}, yw_E K N lc sc n s kap T A m env → m < n → (∀ l, sc c' l = sc m l) → ev_X s s' → (∀ k, k < s.2.1 → kap' k = kap k) → ev_E N m env s → A ≤ s.1 → yw_same A lo hi s.1 T T' → (∀ j, lo ≤ j → j < hi → yw_dn T (A * 48 + j) = 0) → yw_G s.1 T → yw_E K N lc sc n s' kap' T' A c' env := fun E hm hs X hk o hA S F G => yw_E_up B hL E hm hs X hk o hA S F G
  have sub : ∀ {A lo hi lo' hi' : Nat} {T : yw_S}, yw_F A lo hi T → lo ≤ lo' → hi' ≤ hi → yw_F A lo' hi' T := fun F a b j x y => F j (by omega) (by omega)
  -- untouched cells behind the region stay untouched
  have frs : ∀ {A lo hi c : Nat} {T T' : yw_S} {lo' hi' : Nat}, yw_same A lo hi c T T' → A ≤ c → hi' ≤ 48 → hi ≤ lo' → yw_F A lo' hi' T → yw_F A lo' hi' T' := fun {A lo hi c T T' lo' hi'} S hA h1 h2 F j x y => by
    obtain ⟨a1, _, _, a4⟩ := keep j S hA (by omega) (by omega)
    obtain ⟨b1, b2⟩ := F j x y
    exact ⟨a1.trans b1, a4.trans b2⟩
  have lc16 : ∀ {s : ev_S} {k : Nat}, ev_W K N n cl cm s → k < s.2.1 → s.2.2.1 k < n ∧ K (s.2.2.1 k) = 2 ∧ lc (s.2.2.1 k) < 16 := fun {s k} W hk => by
    obtain ⟨a, b, _⟩ := W.2.2 k hk
    have := (B.2.2.1 _ a b).2
    exact ⟨a, b, by omega⟩
  refine (ev_ind2 K e N ix op bm cl cm n T0 (fun _ env m s r s' => yw_M K e N Lv lc sc n Y JV JX env m s r s') ?_ ?_ ?_ ?_ ?_ ?_ ?_ ?_ ?_ ?_ ?_ ?_ ?_ f env m s P0).1
  -- VAR
  · intro f env m s P k A T kap D hA Q E F G d0 hD Ctx
    have hs := P.2.2.1.1
    have hl := (TL m P.1).1
    have hz := (T1 m P.1).1
    have hm := P.1
    refine ⟨fun v hv b fin => ?_, fun x h => nl h⟩
    cases hv
    obtain ⟨p, p1, p2, p3, p4, p5⟩ := B.2.2.2.1 m P.1 k
    obtain ⟨q1, q2, q3⟩ := E p p1 p2 p3
    have dm := (F m (by omega) hz).1
    obtain ⟨g1, g2, g3⟩ := yw_done B hL P.2.2.1 Q G hA (Nat.le_refl _) (by omega) hz dm (yw_same_r A m (e m) s.1 T) (yw_fn T (yw_bi T (A * 16 + lc p))) (yw_vl T (yw_bi T (A * 16 + lc p)))
    obtain ⟨c1, c2, c3⟩ := yw_fin_at (A * 48 + m) (yw_fn T (yw_bi T (A * 16 + lc p))) (yw_vl T (yw_bi T (A * 16 + lc p))) T
    have hf := fin _ kap g1 (fun _ _ => rfl) g2 g3 c1 (by rw [c2, c3, p5]; exact q3)
    have st := rvar b A m T (yw_bi T (A * 16 + lc p)) (by omega) P.1 k (fun _ => d0) (by rw [p4]) q1 hf
    exact up (Ctx T _ (yw_same_r _ _ _ _ T) dm st) (by unfold yw_c; omega)
  -- NUM
  · intro f env m s P k A T kap D hA Q E F G d0 hD Ctx
    have hs := P.2.2.1.1
    have hl := (TL m P.1).1
    have hz := (T1 m P.1).1
    have hm := P.1
    refine ⟨fun v hv b fin => ?_, fun x h => nl h⟩
    cases hv
    have dm := (F m (by omega) hz).1
    obtain ⟨g1, g2, g3⟩ := yw_done B hL P.2.2.1 Q G hA (Nat.le_refl _) (by omega) hz dm (yw_same_r A m (e m) s.1 T) (-1) (op m)
    obtain ⟨c1, c2, c3⟩ := yw_fin_at (A * 48 + m) (-1) (op m) T
    have hf := fin _ kap g1 (fun _ _ => rfl) g2 g3 c1 (by rw [c2, c3]; exact ⟨fun i z => by cases z; exact ⟨rfl, rfl⟩, fun _ z => nomatch z⟩)
    have st := rnum b A m T (by omega) P.1 k (fun _ => d0) hf
    exact up (Ctx T _ (yw_same_r _ _ _ _ T) dm st) (by unfold yw_c; omega)
  -- LAM at the limit
  · intro f env m s P k hc A T kap D hA Q E F G d0 hD Ctx
    have hs := P.2.2.1.1
    have hl := (TL m P.1).1
    have hz := (T1 m P.1).1
    have dm := (F m (by omega) hz).1
    refine ⟨fun v h => nr h, fun x hx hJ => ?_⟩
    cases hx
    have st := rlamF 0 A m T (by omega) P.1 k (Q.2.1.trans hc) (hJ T Q.1 Q.2.1 Q.2.2.1)
    exact up (Ctx T _ (yw_same_r _ _ _ _ T) dm st) (by unfold yw_c; omega)
  -- LAM
  · intro f env m s P k hc A T kap D hA Q E F G d0 hD Ctx
    have hs := P.2.2.1.1
    have hcm := P.2.2.1.2.1
    have hl := (TL m P.1).1
    have hz := (T1 m P.1).1
    have hm := P.1
    have dm := (F m (by omega) hz).1
    refine ⟨fun v hv b fin => ?_, fun x h => nl h⟩
    cases hv
    have X := ev_clo_X m env s
    have hk : ∀ j, j < s.2.1 → tr_put kap s.2.1 A j = kap j := fun j hj => tr_put_n kap A (by omega)
    have S0 : yw_same A 0 0 s.1 T (yw_inc T) := ⟨fun _ _ _ _ _ => ⟨rfl, rfl, rfl, rfl⟩, fun _ _ _ _ => rfl⟩
    have W' := ev_clo_W P.2.2.1 P.1 k hc P.2.2.2
    have Q' : yw_Q K N lc sc n (ev_clo m env s) (tr_put kap s.2.1 A) (yw_inc T) := by
      refine ⟨Q.1, congrArg (· + 1) Q.2.1, Q.2.2.1, fun j hj => ?_⟩
      have hj' : j < s.2.1 + 1 := hj
      show tr_put kap s.2.1 A j ≤ s.1 ∧ yw_E K N lc sc n (ev_clo m env s) (tr_put kap s.2.1 A) (yw_inc T) (tr_put kap s.2.1 A j) (if j = s.2.1 then m else s.2.2.1 j) (if j = s.2.1 then env else s.2.2.2.1 j)
      by_cases z : j = s.2.1
      · rw [if_pos z, if_pos z, z, tr_put_s]
        exact ⟨hA, yw_E_up B hL E P.1 (fun _ => rfl) X hk P.2.2.2 hA S0 (fun j a b => by omega) G⟩
      · rw [if_neg z, if_neg z, hk j (by omega)]
        obtain ⟨a1, a2⟩ := Q.2.2.2 j (by omega)
        obtain ⟨b1, b2, b3⟩ := P.2.2.1.2.2 j (by omega)
        exact ⟨a1, yw_E_up B hL a2 b1 (fun _ => rfl) X hk b3 a1 S0 (fun j a b => by omega) G⟩
    have S1 : yw_same A m (e m) s.1 T (yw_inc T) := ⟨fun _ _ _ _ _ => ⟨rfl, rfl, rfl, rfl⟩, fun _ _ _ _ => rfl⟩
    obtain ⟨g1, g2, g3⟩ := yw_done B hL W' Q' (show yw_G s.1 (yw_inc T) from G) hA (Nat.le_refl _) (by omega) hz (show yw_dn (yw_inc T) (A * 48 + m) = 0 from dm) S1 (nI (lc m)) (nI A)
    obtain ⟨c1, c2, c3⟩ := yw_fin_at (A * 48 + m) (nI (lc m)) (nI A) (yw_inc T)
    have hf := fin _ _ g1 hk g2 g3 c1 (by
      rw [c2, c3]
      refine ⟨fun _ z => (nomatch z), fun j z => ?_⟩
      cases z
      show nI (lc m) = nI (lc (if s.2.1 = s.2.1 then m else s.2.2.1 s.2.1)) ∧ nI A = nI (tr_put kap s.2.1 A s.2.1)
      rw [if_pos rfl, tr_put_s]
      exact ⟨rfl, rfl⟩)
    have st := rlam b A m T (by omega) P.1 k (fun _ => d0) (by rw [Q.2.1]; omega) hf
    exact up (Ctx T _ (yw_same_r _ _ _ _ T) dm st) (by unfold yw_c; omega)
  -- an end in the first child
  · intro f env m s x s1 P k A1 G1 H A T kap D hA Q E F G d0 hD Ctx
    have hs := P.2.2.1.1
    have hz := (T1 m P.1).1
    have hL1 := ((TL m P.1).2.2 k).1
    have he : e (m + 1) ≤ e m ∧ m + 1 < e (m + 1) := by
      by_cases k6 : K m = 6
      · have := tr_k6 T1 P.1 k6; omega
      · have := tr_k3 T1 P.1 k k6; omega
    have dm := (F m (by omega) hz).1
    have I1 := H A T kap (D + 1) hA Q (envc E P.1 (fun l => (B.1 m P.1 k l).1) (ev_X_r s) (fun _ _ => rfl) P.2.2.2 hA (yw_same_r A 0 0 s.1 T) (fun j a b => by omega) G) (sub F (by omega) (by omega)) G d0 (by omega) (ctx1 A m T s.1 D hA (by omega) P.1 k (by omega) dm Ctx)
    refine ⟨fun v h => nr h, fun y hy hJ => ?_⟩
    exact up (I1.2 y hy hJ) (by unfold yw_c; omega)
  -- IF0 on a closure
  · intro f env m s k s1 P k6 A1 G1 H A T kap D hA Q E F G d0 hD Ctx
    have hs := P.2.2.1.1
    have hl := (TL m P.1).1
    have hz := (T1 m P.1).1
    have hm := P.1
    have hLL := (TL m P.1).2.2 (by omega)
    have he := tr_k6 T1 P.1 k6
    have hc1 := G1.2.1.1
    have dm := (F m (by omega) hz).1
    have I1 := H A T kap (D + 1) hA Q (envc E P.1 (fun l => (B.1 m P.1 (by omega) l).1) (ev_X_r s) (fun _ _ => rfl) P.2.2.2 hA (yw_same_r A 0 0 s.1 T) (fun j a b => by omega) G) (sub F (by omega) (by omega)) G d0 (by omega) (ctx1 A m T s.1 D hA (by omega) P.1 (by omega) (by omega) dm Ctx)
    refine ⟨fun v h => nr h, fun y hy hJ => ?_⟩
    cases hy
    refine up (I1.1 _ rfl (1 + D) (fun T2 kap2 Q2 hk2 S2 G3 d2 v2 => ⟨fun z => by omega, fun _ => ?_⟩)) (by unfold yw_c; omega)
    have hk := G1.2.2.1 _ rfl k rfl
    obtain ⟨_, _, l16⟩ := lc16 G1.1 hk
    have st := rifS 0 A m T2 _ (by omega) P.1 k6 d2 (v2.2 k rfl).1 l16 (hJ T2 Q2.1 Q2.2.1 Q2.2.2.1)
    exact up (Ctx T2 _ (yw_same_t S2 (yw_same_r A m (e m) s.1 T2) (Nat.le_refl _) (by omega) (by omega) (Nat.le_refl _) (Nat.le_refl _)) (by rw [(keep m S2 hA (by omega) (by omega)).1]; exact dm) st) (by omega)
  -- IF0 on a number
  · intro f env m s i s1 r s2 P k6 A1 G1 A2 G2 H1 H2 A T kap D hA Q E F G d0 hD Ctx
    have hs := P.2.2.1.1
    have hl := (TL m P.1).1
    have hz := (T1 m P.1).1
    have hm := P.1
    have hLL := (TL m P.1).2.2 (by omega)
    have he := tr_k6 T1 P.1 k6
    have hc1 := G1.2.1.1
    have hc2 := G2.2.1.1
    have hw1 := G1.1.1
    have hw2 := G2.1.1
    have dm := (F m (by omega) hz).1
    have hb : e (m + 1) ≤ (if i = 0 then e (m + 1) else e (e (m + 1))) ∧ e (if i = 0 then e (m + 1) else e (e (m + 1))) ≤ e m ∧ (if i = 0 then e (m + 1) else e (e (m + 1))) < e (if i = 0 then e (m + 1) else e (e (m + 1))) ∧ Lv (if i = 0 then e (m + 1) else e (e (m + 1))) = Lv m + 1 ∧ (∀ l, sc (if i = 0 then e (m + 1) else e (e (m + 1))) l = sc m l) := by
      by_cases z : i = 0
      · rw [if_pos z]; exact ⟨by omega, by omega, by omega, hLL.2.1, fun l => (B.1 m P.1 (by omega) l).2.1⟩
      · rw [if_neg z]; exact ⟨by omega, by omega, by omega, hLL.2.2 k6, fun l => (B.1 m P.1 (by omega) l).2.2 k6⟩
    have hcost : 294 + yw_c e (if i = 0 then e (m + 1) else e (e (m + 1))) s1 s2 + yw_c e (m + 1) s s1 ≤ yw_c e m s s2 := by
      unfold yw_c
      by_cases z : i = 0
      · rw [if_pos z]; omega
      · rw [if_neg z]; omega
    generalize hbn : (if i = 0 then e (m + 1) else e (e (m + 1))) = c' at *
    have I1 := H1 A T kap (D + 1) hA Q (envc E P.1 (fun l => (B.1 m P.1 (by omega) l).1) (ev_X_r s) (fun _ _ => rfl) P.2.2.2 hA (yw_same_r A 0 0 s.1 T) (fun j a b => by omega) G) (sub F (by omega) (by omega)) G d0 (by omega) (ctx1 A m T s.1 D hA (by omega) P.1 (by omega) (by omega) dm Ctx)
    have I2 : ∀ T2 kap2, yw_Q K N lc sc n s1 kap2 T2 → (∀ k, k < s.2.1 → kap2 k = kap k) → yw_same A (m + 1) (e (m + 1)) s.1 T T2 → yw_G s1.1 T2 → yw_dn T2 (A * 48 + (m + 1)) = 1 → yw_v lc s1 kap2 (.inl i) (yw_fn T2 (A * 48 + (m + 1))) (yw_vl T2 (A * 48 + (m + 1))) → _ := fun T2 kap2 Q2 hk2 S2 G3 d2 v2 => H2 A T2 kap2 (D + 1) (by omega) Q2 (envc E P.1 hb.2.2.2.2 G1.2.1 hk2 P.2.2.2 hA S2 (fun j a b => (F j (by omega) (by omega)).1) G) (frs S2 hA (by omega) (by omega) (sub F (by omega) (by omega))) G3 (zero S2 (by omega) d0) (by omega) (by
      have := ctxi A m T T2 s.1 s1.1 D i hA hc1 (by omega) P.1 k6 dm S2 d2 (v2.1 i rfl).1 (v2.1 i rfl).2 Ctx
      rw [hbn] at this
      exact this)
    refine ⟨fun v hv b fin => ?_, fun y hy hJ => ?_⟩
    · refine up (I1.1 _ rfl (b + 294 + yw_c e c' s1 s2) (fun T2 kap2 Q2 hk2 S2 G3 d2 v2 => ⟨fun z => by omega, fun _ => ?_⟩)) (by omega)
      refine up ((I2 T2 kap2 Q2 hk2 S2 G3 d2 v2).1 v hv (b + 294) (fun T3 kap3 Q3 hk3 S3 G4 d3 v3 => ⟨fun z => by omega, fun _ => ?_⟩)) (by omega)
      obtain ⟨j1, j2, j3, j4⟩ := keep (m + 1) S3 (by omega) (by omega) (by omega)
      have j5 := (keep m S2 hA (by omega) (by omega)).1
      have j6 := (keep m S3 (by omega) (by omega) (by omega)).1
      have dm3 : yw_dn T3 (A * 48 + m) = 0 := by rw [j6, j5]; exact dm
      have S13 : yw_same A m (e m) s.1 T T3 := yw_same_t S2 S3 hc1 (by omega) (by omega) (by omega) (by omega)
      obtain ⟨g1, g2, g3⟩ := yw_done B hL G2.1 Q3 G4 hA (by omega) (by omega) hz dm3 S13 (yw_fn T3 (A * 48 + c')) (yw_vl T3 (A * 48 + c'))
      obtain ⟨c1, c2, c3⟩ := yw_fin_at (A * 48 + m) (yw_fn T3 (A * 48 + c')) (yw_vl T3 (A * 48 + c')) T3
      have hf := fin _ kap3 g1 (fun k hk => (hk3 k (by have := G1.2.1.2.1; omega)).trans (hk2 k hk)) g2 g3 c1 (by rw [c2, c3]; exact v3)
      have st := rif b A m T3 i (A * 48 + c') (by omega) P.1 k6 (fun _ => zero S3 (by omega) (zero S2 (by omega) d0)) (by rw [j1]; exact d2) (by rw [j2]; exact (v2.1 i rfl).1) (by rw [j3]; exact (v2.1 i rfl).2) (by rw [hbn]) d3 hf
      exact up (Ctx T3 _ S13 dm3 st) (by omega)
    · refine up (I1.1 _ rfl (yw_c e c' s1 s2) (fun T2 kap2 Q2 hk2 S2 G3 d2 v2 => ⟨fun z => by omega, fun _ => ?_⟩)) (by omega)
      exact (I2 T2 kap2 Q2 hk2 S2 G3 d2 v2).2 y hy hJ
  -- an end in the second child
  · intro f env m s v s1 x s2 P k k6 A1 G1 A2 G2 H1 H2 A T kap D hA Q E F G d0 hD Ctx
    have hs := P.2.2.1.1
    have hl := (TL m P.1).1
    have hz := (T1 m P.1).1
    have hm := P.1
    have hLL := (TL m P.1).2.2 (by omega)
    have he := tr_k3 T1 P.1 (by omega) (by omega)
    have hc1 := G1.2.1.1
    have hc2 := G2.2.1.1
    have hw1 := G1.1.1
    have hw2 := G2.1.1
    have dm := (F m (by omega) hz).1
    have em := (F m (by omega) hz).2
    have I1 := H1 A T kap (D + 1) hA Q (envc E P.1 (fun l => (B.1 m P.1 (by omega) l).1) (ev_X_r s) (fun _ _ => rfl) P.2.2.2 hA (yw_same_r A 0 0 s.1 T) (fun j a b => by omega) G) (sub F (by omega) (by omega)) G d0 (by omega) (ctx1 A m T s.1 D hA (by omega) P.1 (by omega) (by omega) dm Ctx)
    have I2 : ∀ T2 kap2, yw_Q K N lc sc n s1 kap2 T2 → (∀ k, k < s.2.1 → kap2 k = kap k) → yw_same A (m + 1) (e (m + 1)) s.1 T T2 → yw_G s1.1 T2 → yw_dn T2 (A * 48 + (m + 1)) = 1 → _ := fun T2 kap2 Q2 hk2 S2 G3 d2 => H2 A T2 kap2 (D + 1) (by omega) Q2 (envc E P.1 (fun l => (B.1 m P.1 (by omega) l).2.1) G1.2.1 hk2 P.2.2.2 hA S2 (fun j a b => (F j (by omega) (by omega)).1) G) (frs S2 hA (by omega) (by omega) (sub F (by omega) (by omega))) G3 (zero S2 (by omega) d0) (by omega) (ctx2 A m T T2 s.1 s1.1 D hA hc1 (by omega) P.1 (by omega) (by omega) dm S2 d2 Ctx)
    refine ⟨fun v h => nr h, fun y hy hJ => ?_⟩
    refine up (I1.1 _ rfl (yw_c e (e (m + 1)) s1 s2) (fun T2 kap2 Q2 hk2 S2 G3 d2 v2 => ⟨fun z => by omega, fun _ => ?_⟩)) (by unfold yw_c; omega)
    exact (I2 T2 kap2 Q2 hk2 S2 G3 d2).2 y hy hJ
  -- APP on a number
  · intro f env m s i s1 x s2 P k A1 G1 A2 G2 H1 H2 A T kap D hA Q E F G d0 hD Ctx
    have hs := P.2.2.1.1
    have hl := (TL m P.1).1
    have hz := (T1 m P.1).1
    have hm := P.1
    have hLL := (TL m P.1).2.2 (by omega)
    have he := tr_k3 T1 P.1 (by omega) (by omega)
    have hc1 := G1.2.1.1
    have hc2 := G2.2.1.1
    have hw1 := G1.1.1
    have hw2 := G2.1.1
    have dm := (F m (by omega) hz).1
    have em := (F m (by omega) hz).2
    have I1 := H1 A T kap (D + 1) hA Q (envc E P.1 (fun l => (B.1 m P.1 (by omega) l).1) (ev_X_r s) (fun _ _ => rfl) P.2.2.2 hA (yw_same_r A 0 0 s.1 T) (fun j a b => by omega) G) (sub F (by omega) (by omega)) G d0 (by omega) (ctx1 A m T s.1 D hA (by omega) P.1 (by omega) (by omega) dm Ctx)
    have I2 : ∀ T2 kap2, yw_Q K N lc sc n s1 kap2 T2 → (∀ k, k < s.2.1 → kap2 k = kap k) → yw_same A (m + 1) (e (m + 1)) s.1 T T2 → yw_G s1.1 T2 → yw_dn T2 (A * 48 + (m + 1)) = 1 → _ := fun T2 kap2 Q2 hk2 S2 G3 d2 => H2 A T2 kap2 (D + 1) (by omega) Q2 (envc E P.1 (fun l => (B.1 m P.1 (by omega) l).2.1) G1.2.1 hk2 P.2.2.2 hA S2 (fun j a b => (F j (by omega) (by omega)).1) G) (frs S2 hA (by omega) (by omega) (sub F (by omega) (by omega))) G3 (zero S2 (by omega) d0) (by omega) (ctx2 A m T T2 s.1 s1.1 D hA hc1 (by omega) P.1 (by omega) (by omega) dm S2 d2 Ctx)
    refine ⟨fun v h => nr h, fun y hy hJ => ?_⟩
    cases hy
    refine up (I1.1 _ rfl (294 + yw_c e (e (m + 1)) s1 s2) (fun T2 kap2 Q2 hk2 S2 G3 d2 v2 => ⟨fun z => by omega, fun _ => ?_⟩)) (by unfold yw_c; omega)
    refine up ((I2 T2 kap2 Q2 hk2 S2 G3 d2).1 _ rfl 294 (fun T3 kap3 Q3 hk3 S3 G4 d3 v3 => ⟨fun z => by omega, fun _ => ?_⟩)) (by omega)
    have hne2 : ¬ A * 48 + e (m + 1) = 0 := by omega
    obtain ⟨j1, j2, j3, j4⟩ := keep (m + 1) S3 (by omega) (by omega) (by omega)
    have j5 := (keep m S2 hA (by omega) (by omega))
    have j6 := (keep m S3 (by omega) (by omega) (by omega))
    have dm3 : yw_dn T3 (A * 48 + m) = 0 := by rw [j6.1, j5.1]; exact dm
    have em3 : yw_et T3 (A * 48 + m) = 0 := by rw [j6.2.2.2, j5.2.2.2]; exact em
    have S13 : yw_same A m (e m) s.1 T T3 := yw_same_t S2 S3 hc1 (by omega) (by omega) (by omega) (by omega)
    have st := rappS 0 A m T3 (by omega) P.1 k (by rw [j1]; exact d2) d3 em3 (by rw [j2]; exact (v2.1 i rfl).1) (hJ T3 Q3.1 Q3.2.1 Q3.2.2.1)
    exact up (Ctx T3 _ S13 dm3 st) (by omega)
  -- APP at the call limit
  · intro f env m s j s1 x s2 P k hc A1 G1 A2 G2 H1 H2 A T kap D hA Q E F G d0 hD Ctx
    have hs := P.2.2.1.1
    have hl := (TL m P.1).1
    have hz := (T1 m P.1).1
    have hm := P.1
    have hLL := (TL m P.1).2.2 (by omega)
    have he := tr_k3 T1 P.1 (by omega) (by omega)
    have hc1 := G1.2.1.1
    have hc2 := G2.2.1.1
    have hw1 := G1.1.1
    have hw2 := G2.1.1
    have dm := (F m (by omega) hz).1
    have em := (F m (by omega) hz).2
    have I1 := H1 A T kap (D + 1) hA Q (envc E P.1 (fun l => (B.1 m P.1 (by omega) l).1) (ev_X_r s) (fun _ _ => rfl) P.2.2.2 hA (yw_same_r A 0 0 s.1 T) (fun j a b => by omega) G) (sub F (by omega) (by omega)) G d0 (by omega) (ctx1 A m T s.1 D hA (by omega) P.1 (by omega) (by omega) dm Ctx)
    have I2 : ∀ T2 kap2, yw_Q K N lc sc n s1 kap2 T2 → (∀ k, k < s.2.1 → kap2 k = kap k) → yw_same A (m + 1) (e (m + 1)) s.1 T T2 → yw_G s1.1 T2 → yw_dn T2 (A * 48 + (m + 1)) = 1 → _ := fun T2 kap2 Q2 hk2 S2 G3 d2 => H2 A T2 kap2 (D + 1) (by omega) Q2 (envc E P.1 (fun l => (B.1 m P.1 (by omega) l).2.1) G1.2.1 hk2 P.2.2.2 hA S2 (fun j a b => (F j (by omega) (by omega)).1) G) (frs S2 hA (by omega) (by omega) (sub F (by omega) (by omega))) G3 (zero S2 (by omega) d0) (by omega) (ctx2 A m T T2 s.1 s1.1 D hA hc1 (by omega) P.1 (by omega) (by omega) dm S2 d2 Ctx)
    refine ⟨fun v h => nr h, fun y hy hJ => ?_⟩
    cases hy
    obtain ⟨_, _, l16⟩ := lc16 G1.1 (G1.2.2.1 _ rfl j rfl)
    refine up (I1.1 _ rfl (294 + yw_c e (e (m + 1)) s1 s2) (fun T2 kap2 Q2 hk2 S2 G3 d2 v2 => ⟨fun z => by omega, fun _ => ?_⟩)) (by unfold yw_c; omega)
    refine up ((I2 T2 kap2 Q2 hk2 S2 G3 d2).1 _ rfl 294 (fun T3 kap3 Q3 hk3 S3 G4 d3 v3 => ⟨fun z => by omega, fun _ => ?_⟩)) (by omega)
    have hne2 : ¬ A * 48 + e (m + 1) = 0 := by omega
    obtain ⟨j1, j2, j3, j4⟩ := keep (m + 1) S3 (by omega) (by omega) (by omega)
    have j5 := (keep m S2 hA (by omega) (by omega))
    have j6 := (keep m S3 (by omega) (by omega) (by omega))
    have dm3 : yw_dn T3 (A * 48 + m) = 0 := by rw [j6.1, j5.1]; exact dm
    have em3 : yw_et T3 (A * 48 + m) = 0 := by rw [j6.2.2.2, j5.2.2.2]; exact em
    have S13 : yw_same A m (e m) s.1 T T3 := yw_same_t S2 S3 hc1 (by omega) (by omega) (by omega) (by omega)
    have st := rappC 0 A m T3 _ (by omega) P.1 k (by rw [j1]; exact d2) d3 em3 (by rw [j2]; exact (v2.2 j rfl).1) l16 (Q3.1.trans hc) (hJ T3 Q3.1 Q3.2.1 Q3.2.2.1)
    exact up (Ctx T3 _ S13 dm3 st) (by omega)
  -- APP
  · intro f env m s j s1 x s2 r s3 P k hc A1 G1 A2 G2 A3 G3 H1 H2 H3 A T kap D hA Q E F G d0 hD Ctx
    have hs := P.2.2.1.1
    have hl := (TL m P.1).1
    have hz := (T1 m P.1).1
    have hm := P.1
    have hLL := (TL m P.1).2.2 (by omega)
    have he := tr_k3 T1 P.1 (by omega) (by omega)
    have hc1 := G1.2.1.1
    have hc2 := G2.2.1.1
    have hw1 := G1.1.1
    have hw2 := G2.1.1
    have hc3 : s2.1 + 1 ≤ s3.1 := G3.2.1.1
    have dm := (F m (by omega) hz).1
    have em := (F m (by omega) hz).2
    have hj1 := G1.2.2.1 _ rfl j rfl
    have hj2 : j < s2.2.1 := Nat.lt_of_lt_of_le hj1 G2.2.1.2.1
    obtain ⟨p1, p2, l16⟩ := lc16 G2.1 hj2
    have pe := (G2.2.1.2.2 j hj1).1
    have hb := tr_k2 T1 p1 p2
    have hLb := (TL _ p1).2.1 p2
    have hcost : 294 + 294 + yw_c e (s2.2.2.1 j + 1) (ev_call bm m j s2) s3 + yw_c e (e (m + 1)) s1 s2 + yw_c e (m + 1) s s1 ≤ yw_c e m s s3 := by
      show 294 + 294 + 294 * ((e (s2.2.2.1 j + 1) - (s2.2.2.1 j + 1)) + 49 * (s3.1 - (s2.1 + 1))) + 294 * ((e (e (m + 1)) - e (m + 1)) + 49 * (s2.1 - s1.1)) + 294 * ((e (m + 1) - (m + 1)) + 49 * (s1.1 - s.1)) ≤ 294 * ((e m - m) + 49 * (s3.1 - s.1))
      omega
    have I1 := H1 A T kap (D + 1) hA Q (envc E P.1 (fun l => (B.1 m P.1 (by omega) l).1) (ev_X_r s) (fun _ _ => rfl) P.2.2.2 hA (yw_same_r A 0 0 s.1 T) (fun j a b => by omega) G) (sub F (by omega) (by omega)) G d0 (by omega) (ctx1 A m T s.1 D hA (by omega) P.1 (by omega) (by omega) dm Ctx)
    have I2 : ∀ T2 kap2, yw_Q K N lc sc n s1 kap2 T2 → (∀ k, k < s.2.1 → kap2 k = kap k) → yw_same A (m + 1) (e (m + 1)) s.1 T T2 → yw_G s1.1 T2 → yw_dn T2 (A * 48 + (m + 1)) = 1 → _ := fun T2 kap2 Q2 hk2 S2 G3 d2 => H2 A T2 kap2 (D + 1) (by omega) Q2 (envc E P.1 (fun l => (B.1 m P.1 (by omega) l).2.1) G1.2.1 hk2 P.2.2.2 hA S2 (fun j a b => (F j (by omega) (by omega)).1) G) (frs S2 hA (by omega) (by omega) (sub F (by omega) (by omega))) G3 (zero S2 (by omega) d0) (by omega) (ctx2 A m T T2 s.1 s1.1 D hA hc1 (by omega) P.1 (by omega) (by omega) dm S2 d2 Ctx)
    -- the call itself, from the tables behind both children
    have I3 : ∀ T3 kap3, yw_Q K N lc sc n s2 kap3 T3 → yw_same A m (e m) s.1 T T3 → yw_G s2.1 T3 → yw_dn T3 0 = 0 → yw_dn T3 (A * 48 + m) = 0 → yw_et T3 (A * 48 + m) = 0 → yw_dn T3 (A * 48 + (m + 1)) = 1 → yw_dn T3 (A * 48 + e (m + 1)) = 1 → yw_v lc s2 kap3 (.inr j) (yw_fn T3 (A * 48 + (m + 1))) (yw_vl T3 (A * 48 + (m + 1))) → yw_v lc s2 kap3 x (yw_fn T3 (A * 48 + e (m + 1))) (yw_vl T3 (A * 48 + e (m + 1))) →
        (∀ v, r = .inl v → ∀ b, (∀ T' kap', yw_Q K N lc sc n s3 kap' T' → (∀ k, k < s2.2.1 → kap' k = kap3 k) → yw_same A m (e m) s.1 T T' → yw_G s3.1 T' → yw_dn T' (A * 48 + m) = 1 → yw_v lc s3 kap' v (yw_fn T' (A * 48 + m)) (yw_vl T' (A * 48 + m)) → (A * 48 + m = 0 → JV T') ∧ (A * 48 + m ≠ 0 → Y b 0 T')) → Y (b + (294 + 294 + yw_c e (s2.2.2.1 j + 1) (ev_call bm m j s2) s3)) 0 T3) ∧
        (∀ y, r = .inr y → (∀ T', T'.1 = s3.1 → T'.2.1 = s3.2.1 → yw_cs T' = s3.2.2.2.2 → JX y T') → Y (294 + yw_c e (s2.2.2.1 j + 1) (ev_call bm m j s2) s3) 0 T3) := by
      intro T3 kap3 Q3 S13 G4 d03 dm3 em3 d2 d3 v2 v3
      obtain ⟨ka, kE⟩ := Q3.2.2.2 j hj2
      have hT : T3.1 = s2.1 := Q3.1
      have st : ∀ b, Y b 0 (yw_call bm m (A * 48 + m) (kap3 j) (lc (s2.2.2.1 j)) (A * 48 + e (m + 1)) (s2.2.2.1 j) T3) → Y (b + 294) 0 T3 := fun b h => by
        have := rapp b A m T3 (s2.2.2.1 j) (kap3 j) (by omega) P.1 k d2 d3 em3 p1 p2 (v2.2 j rfl).1 (v2.2 j rfl).2 (by omega) (by omega) d03 dm3 h
        exact up (Ctx T3 _ S13 dm3 this) (by omega)
      generalize hT4 : yw_call bm m (A * 48 + m) (kap3 j) (lc (s2.2.2.1 j)) (A * 48 + e (m + 1)) (s2.2.2.1 j) T3 = T4 at st
      have t1 : T4.1 = s2.1 + 1 := by rw [← hT4]; exact congrArg (· + 1) hT
      have t2 : T4.2.1 = s2.2.1 := by rw [← hT4]; exact Q3.2.1
      have t3 : yw_dn T4 = yw_dn T3 := by rw [← hT4]; rfl
      have t4 : yw_fn T4 = yw_fn T3 := by rw [← hT4]; rfl
      have t5 : yw_vl T4 = yw_vl T3 := by rw [← hT4]; rfl
      have t6 : yw_et T4 = tr_put (yw_et T3) (A * 48 + m) ((s2.1 + 1) * 48 + (s2.2.2.1 j + 1)) := by rw [← hT4, ← hT]; rfl
      have t7 : yw_bi T4 = (fun i => if i = (s2.1 + 1) * 16 + lc (s2.2.2.1 j) then A * 48 + e (m + 1) else if (s2.1 + 1) * 16 ≤ i ∧ i < (s2.1 + 1) * 16 + 16 then yw_bi T3 (kap3 j * 16 + (i - (s2.1 + 1) * 16)) else yw_bi T3 i) := by rw [← hT4, ← hT]; rfl
      have t8 : yw_cs T4 = (ev_call bm m j s2).2.2.2.2 := by
        rw [← hT4]
        show (fun i => if i = m then yw_cs T3 m ||| bm (s2.2.2.1 j) else yw_cs T3 i) = _
        rw [Q3.2.2.1]
        rfl
      have ne : ∀ A' m', m' < 48 → ¬ (A' = A ∧ m' = m) → yw_et T4 (A' * 48 + m') = yw_et T3 (A' * 48 + m') := fun A' m' h z => by
        rw [t6]
        exact tr_put_n _ _ (fun w => z (yw_cell (by omega) h w))
      have S34 : yw_same A m (m + 1) s2.1 T3 T4 := by
        refine ⟨fun A' m' a b z => ⟨by rw [t3], by rw [t4], by rw [t5], ne A' m' b (fun w => z ⟨w.1, by omega, by omega⟩)⟩, fun A' l a b => ?_⟩
        rw [t7]
        show (if A' * 16 + l = (s2.1 + 1) * 16 + lc (s2.2.2.1 j) then A * 48 + e (m + 1) else if (s2.1 + 1) * 16 ≤ A' * 16 + l ∧ A' * 16 + l < (s2.1 + 1) * 16 + 16 then yw_bi T3 (kap3 j * 16 + (A' * 16 + l - (s2.1 + 1) * 16)) else yw_bi T3 (A' * 16 + l)) = _
        rw [if_neg (by omega), if_neg (by omega)]
      have F34 : ∀ i, m ≤ i → i < m + 1 → yw_dn T3 (A * 48 + i) = 0 := fun i a b => by
        have : i = m := by omega
        rw [this]; exact dm3
      have Xc := ev_call_X bm m j s2
      have Q4 : yw_Q K N lc sc n (ev_call bm m j s2) kap3 T4 := by
        refine ⟨t1, t2, t8, fun k hk => ?_⟩
        obtain ⟨a1, a2⟩ := Q3.2.2.2 k hk
        obtain ⟨b1, b2, b3⟩ := G2.1.2.2 k hk
        exact ⟨Nat.le_succ_of_le a1, yw_E_up B hL a2 b1 (fun _ => rfl) Xc (fun _ _ => rfl) b3 a1 S34 F34 G4⟩
      have E4 : yw_E K N lc sc n (ev_call bm m j s2) kap3 T4 (s2.1 + 1) (s2.2.2.1 j + 1) (ev_env N j x s2) := by
        intro b hb kb z
        have hl16 : lc b < 16 := by have := (B.2.2.1 b hb kb).2; omega
        rcases B.2.1 _ p1 p2 _ z with y | y
        · have hN := B.2.2.2.2.1 _ p1 b hb kb y
          have hne : lc b ≠ lc (s2.2.2.1 j) := fun w => by
            have := B.2.2.2.2.2 _ _ hb p1 kb p2 w
            rw [this] at hN
            omega
          have hbi : yw_bi T4 ((s2.1 + 1) * 16 + lc b) = yw_bi T3 (kap3 j * 16 + lc b) := by
            rw [t7]
            show (if (s2.1 + 1) * 16 + lc b = (s2.1 + 1) * 16 + lc (s2.2.2.1 j) then A * 48 + e (m + 1) else if (s2.1 + 1) * 16 ≤ (s2.1 + 1) * 16 + lc b ∧ (s2.1 + 1) * 16 + lc b < (s2.1 + 1) * 16 + 16 then yw_bi T3 (kap3 j * 16 + ((s2.1 + 1) * 16 + lc b - (s2.1 + 1) * 16)) else yw_bi T3 ((s2.1 + 1) * 16 + lc b)) = _
            rw [if_neg (by omega), if_pos (by omega), Nat.add_sub_cancel_left]
          rw [hbi, t3, t4, t5]
          have hen : ev_env N j x s2 (N b) = s2.2.2.2.1 j (N b) := if_neg (by omega)
          rw [hen]
          exact kE b hb kb y
        · have hbp := B.2.2.2.2.2 _ _ hb p1 kb p2 y
          have hbi : yw_bi T4 ((s2.1 + 1) * 16 + lc b) = A * 48 + e (m + 1) := by
            rw [t7, y]
            exact if_pos rfl
          rw [hbi, t3, t4, t5]
          have hen : ev_env N j x s2 (N b) = x := by rw [hbp]; exact if_pos rfl
          rw [hen]
          exact ⟨by omega, d3, v3⟩
      have F4 : yw_F (s2.1 + 1) (s2.2.2.1 j + 1) (e (s2.2.2.1 j + 1)) T4 := fun i a b => by
        obtain ⟨g1, g2⟩ := G4 (s2.1 + 1) i (by omega) (by omega) (by omega)
        exact ⟨by rw [t3]; exact g1, by rw [ne _ _ (by omega) (by omega)]; exact g2⟩
      have G5 : yw_G (s2.1 + 1) T4 := fun A' i a b c => by
        obtain ⟨g1, g2⟩ := G4 A' i (by omega) b c
        exact ⟨by rw [t3]; exact g1, by rw [ne _ _ c (by omega)]; exact g2⟩
      have S14 : yw_same A m (e m) s.1 T T4 := yw_same_t S13 S34 (by omega) (Nat.le_refl _) (Nat.le_refl _) (Nat.le_refl _) (by omega)
      have et4 : yw_et T4 (A * 48 + m) = (s2.1 + 1) * 48 + (s2.2.2.1 j + 1) := by rw [t6, tr_put_s]
      -- what is seen of the call while its body is at work, and behind it
      have see : ∀ T', yw_same (s2.1 + 1) (s2.2.2.1 j + 1) (e (s2.2.2.1 j + 1)) (s2.1 + 1) T4 T' → yw_dn T' (A * 48 + m) = 0 ∧ yw_et T' (A * 48 + m) = (s2.1 + 1) * 48 + (s2.2.2.1 j + 1) ∧ yw_dn T' (A * 48 + (m + 1)) = 1 ∧ yw_dn T' (A * 48 + e (m + 1)) = 1 ∧ yw_fn T' (A * 48 + (m + 1)) = nI (lc (s2.2.2.1 j)) ∧ yw_same A m (e m) s.1 T T' ∧ yw_dn T' 0 = 0 := fun T' S => by
        obtain ⟨a1, _, _, a4⟩ := S.1 A m (by omega) (by omega) (by omega)
        obtain ⟨b1, b2, _, _⟩ := S.1 A (m + 1) (by omega) (by omega) (by omega)
        have c1 := (S.1 A (e (m + 1)) (by omega) (by omega) (by omega)).1
        have z1 : yw_dn T' 0 = yw_dn T4 0 := (S.1 0 0 (by omega) (by omega) (by omega)).1
        exact ⟨by rw [a1, t3]; exact dm3, by rw [a4]; exact et4, by rw [b1, t3]; exact d2, by rw [c1, t3]; exact d3, by rw [b2, t4]; exact (v2.2 j rfl).1, yw_same_t S14 (yw_same_b (A := A) (l := m) (h := e m) (c := s.1) S (by omega) (by omega)) (Nat.le_refl _) (Nat.le_refl _) (Nat.le_refl _) (Nat.le_refl _) (Nat.le_refl _), by rw [z1, t3]; exact d03⟩
      have ctx3 : ∀ T' b, yw_same (s2.1 + 1) (s2.2.2.1 j + 1) (e (s2.2.2.1 j + 1)) (s2.1 + 1) T4 T' → yw_dn T' ((s2.1 + 1) * 48 + (s2.2.2.1 j + 1)) = 0 → Y b ((s2.1 + 1) * 48 + (s2.2.2.1 j + 1)) T' → Y (b + (D + 1)) 0 T' := fun T' b S d h => by
        obtain ⟨a1, a2, a3, a4, a5, a6, a7⟩ := see T' S
        have := w3 b A m T' _ (by omega) P.1 k a3 a4 a2 (by omega) (by omega) d h
        exact up (Ctx T' _ a6 a1 this) (by omega)
      have IH := H3 (s2.1 + 1) T4 kap3 (D + 1) (Nat.le_refl _) Q4 E4 F4 G5 (by rw [t3]; exact d03) (by omega) ctx3
      refine ⟨fun v hv b fin => ?_, fun y hy hJ => ?_⟩
      · refine up (st _ (IH.1 v hv (b + 294) (fun T5 kap5 Q5 hk5 S5 G6 d5 v5 => ⟨fun z => by omega, fun _ => ?_⟩))) (by omega)
        obtain ⟨a1, a2, a3, a4, a5, a6, a7⟩ := see T5 S5
        obtain ⟨g1, g2, g3⟩ := yw_done B hL G3.1 Q5 G6 hA (by omega) (by omega) hz a1 a6 (yw_fn T5 ((s2.1 + 1) * 48 + (s2.2.2.1 j + 1))) (yw_vl T5 ((s2.1 + 1) * 48 + (s2.2.2.1 j + 1)))
        obtain ⟨c1, c2, c3⟩ := yw_fin_at (A * 48 + m) (yw_fn T5 ((s2.1 + 1) * 48 + (s2.2.2.1 j + 1))) (yw_vl T5 ((s2.1 + 1) * 48 + (s2.2.2.1 j + 1))) T5
        have hf := fin _ kap5 g1 hk5 g2 g3 c1 (by rw [c2, c3]; exact v5)
        have := rappR b A m T5 _ _ (by omega) P.1 k (fun _ => a7) a3 a4 a2 (by omega) (by omega) d5 a1 a5 l16 hf
        exact up (Ctx T5 _ a6 a1 this) (by omega)
      · exact up (st _ (IH.2 y hy hJ)) (by omega)
    -- both children, then the call
    have bring : ∀ {T2 T3 : yw_S} {kap2 kap3 : Nat → Nat}, yw_same A (m + 1) (e (m + 1)) s.1 T T2 → yw_same A (e (m + 1)) (e (e (m + 1))) s1.1 T2 T3 → (∀ k, k < s1.2.1 → kap3 k = kap2 k) → yw_dn T2 (A * 48 + (m + 1)) = 1 → yw_v lc s1 kap2 (.inr j) (yw_fn T2 (A * 48 + (m + 1))) (yw_vl T2 (A * 48 + (m + 1))) → yw_same A m (e m) s.1 T T3 ∧ yw_dn T3 0 = 0 ∧ yw_dn T3 (A * 48 + m) = 0 ∧ yw_et T3 (A * 48 + m) = 0 ∧ yw_dn T3 (A * 48 + (m + 1)) = 1 ∧ yw_v lc s2 kap3 (.inr j) (yw_fn T3 (A * 48 + (m + 1))) (yw_vl T3 (A * 48 + (m + 1))) := fun {T2 T3 kap2 kap3} S2 S3 hk d2 v2 => by
      obtain ⟨j1, j2, j3, _⟩ := keep (m + 1) S3 (by omega) (by omega) (by omega)
      have j5 := keep m S2 hA (by omega) (by omega)
      have j6 := keep m S3 (by omega) (by omega) (by omega)
      refine ⟨yw_same_t S2 S3 hc1 (by omega) (by omega) (by omega) (by omega), zero S3 (by omega) (zero S2 (by omega) d0), by rw [j6.1, j5.1]; exact dm, by rw [j6.2.2.2, j5.2.2.2]; exact em, by rw [j1]; exact d2, ?_⟩
      rw [j2, j3]
      exact yw_v_up v2 G2.2.1 hk (G1.2.2.1 _ rfl)
    refine ⟨fun v hv b fin => ?_, fun y hy hJ => ?_⟩
    · refine up (I1.1 _ rfl (b + (294 + 294 + yw_c e (s2.2.2.1 j + 1) (ev_call bm m j s2) s3) + yw_c e (e (m + 1)) s1 s2) (fun T2 kap2 Q2 hk2 S2 Ga d2 v2 => ⟨fun z => by omega, fun _ => ?_⟩)) (by omega)
      refine (I2 T2 kap2 Q2 hk2 S2 Ga d2).1 _ rfl _ (fun T3 kap3 Q3 hk3 S3 Gb d3 v3 => ⟨fun z => by omega, fun _ => ?_⟩)
      obtain ⟨e1, e2, e3, e4, e5, e6⟩ := bring S2 S3 hk3 d2 v2
      exact (I3 T3 kap3 Q3 e1 Gb e2 e3 e4 e5 d3 e6 v3).1 v hv b (fun T' kap' u1 u2 u3 u4 u5 u6 => fin T' kap' u1 (fun i hi => ((u2 i (by have := G1.2.1.2.1; have := G2.2.1.2.1; omega)).trans (hk3 i (by have := G1.2.1.2.1; omega))).trans (hk2 i hi)) u3 u4 u5 u6)
    · refine up (I1.1 _ rfl (294 + yw_c e (s2.2.2.1 j + 1) (ev_call bm m j s2) s3 + yw_c e (e (m + 1)) s1 s2) (fun T2 kap2 Q2 hk2 S2 Ga d2 v2 => ⟨fun z => by omega, fun _ => ?_⟩)) (by omega)
      refine (I2 T2 kap2 Q2 hk2 S2 Ga d2).1 _ rfl _ (fun T3 kap3 Q3 hk3 S3 Gb d3 v3 => ⟨fun z => by omega, fun _ => ?_⟩)
      obtain ⟨e1, e2, e3, e4, e5, e6⟩ := bring S2 S3 hk3 d2 v2
      exact (I3 T3 kap3 Q3 e1 Gb e2 e3 e4 e5 d3 e6 v3).2 y hy hJ
  -- ADD, SUB
  · intro f env m s i s1 j s2 P k A1 G1 A2 G2 H1 H2 A T kap D hA Q E F G d0 hD Ctx
    have hs := P.2.2.1.1
    have hl := (TL m P.1).1
    have hz := (T1 m P.1).1
    have hm := P.1
    have hLL := (TL m P.1).2.2 (by omega)
    have he := tr_k3 T1 P.1 (by omega) (by omega)
    have hc1 := G1.2.1.1
    have hc2 := G2.2.1.1
    have hw1 := G1.1.1
    have hw2 := G2.1.1
    have dm := (F m (by omega) hz).1
    have em := (F m (by omega) hz).2
    have I1 := H1 A T kap (D + 1) hA Q (envc E P.1 (fun l => (B.1 m P.1 (by omega) l).1) (ev_X_r s) (fun _ _ => rfl) P.2.2.2 hA (yw_same_r A 0 0 s.1 T) (fun j a b => by omega) G) (sub F (by omega) (by omega)) G d0 (by omega) (ctx1 A m T s.1 D hA (by omega) P.1 (by omega) (by omega) dm Ctx)
    have I2 : ∀ T2 kap2, yw_Q K N lc sc n s1 kap2 T2 → (∀ k, k < s.2.1 → kap2 k = kap k) → yw_same A (m + 1) (e (m + 1)) s.1 T T2 → yw_G s1.1 T2 → yw_dn T2 (A * 48 + (m + 1)) = 1 → _ := fun T2 kap2 Q2 hk2 S2 G3 d2 => H2 A T2 kap2 (D + 1) (by omega) Q2 (envc E P.1 (fun l => (B.1 m P.1 (by omega) l).2.1) G1.2.1 hk2 P.2.2.2 hA S2 (fun j a b => (F j (by omega) (by omega)).1) G) (frs S2 hA (by omega) (by omega) (sub F (by omega) (by omega))) G3 (zero S2 (by omega) d0) (by omega) (ctx2 A m T T2 s.1 s1.1 D hA hc1 (by omega) P.1 (by omega) (by omega) dm S2 d2 Ctx)
    refine ⟨fun v hv b fin => ?_, fun x h => nl h⟩
    cases hv
    refine up (I1.1 _ rfl (b + 294 + yw_c e (e (m + 1)) s1 s2) (fun T2 kap2 Q2 hk2 S2 G3 d2 v2 => ⟨fun z => by omega, fun _ => ?_⟩)) (by unfold yw_c; omega)
    refine up ((I2 T2 kap2 Q2 hk2 S2 G3 d2).1 _ rfl (b + 294) (fun T3 kap3 Q3 hk3 S3 G4 d3 v3 => ⟨fun z => by omega, fun _ => ?_⟩)) (by omega)
    have hne2 : ¬ A * 48 + e (m + 1) = 0 := by omega
    obtain ⟨j1, j2, j3, j4⟩ := keep (m + 1) S3 (by omega) (by omega) (by omega)
    have j5 := (keep m S2 hA (by omega) (by omega))
    have j6 := (keep m S3 (by omega) (by omega) (by omega))
    have dm3 : yw_dn T3 (A * 48 + m) = 0 := by rw [j6.1, j5.1]; exact dm
    have em3 : yw_et T3 (A * 48 + m) = 0 := by rw [j6.2.2.2, j5.2.2.2]; exact em
    have S13 : yw_same A m (e m) s.1 T T3 := yw_same_t S2 S3 hc1 (by omega) (by omega) (by omega) (by omega)
    have vi : yw_vl T3 (A * 48 + (m + 1)) = i := by rw [j3]; exact (v2.1 i rfl).2
    have vj : yw_vl T3 (A * 48 + e (m + 1)) = j := (v3.1 j rfl).2
    obtain ⟨g1, g2, g3⟩ := yw_done B hL G2.1 Q3 G4 hA (by omega) (by omega) hz dm3 S13 (-1) (if K m = 4 then i + j else i - j)
    obtain ⟨c1, c2, c3⟩ := yw_fin_at (A * 48 + m) (-1) (if K m = 4 then i + j else i - j) T3
    have hf := fin _ kap3 g1 (fun k hk => (hk3 k (by have := G1.2.1.2.1; omega)).trans (hk2 k hk)) g2 g3 c1 (by rw [c2, c3]; exact ⟨fun i z => by cases z; exact ⟨rfl, rfl⟩, fun _ z => nomatch z⟩)
    have st := rsum b A m T3 (by omega) P.1 k (fun _ => zero S3 (by omega) (zero S2 (by omega) d0)) (by rw [j1]; exact d2) d3 (by rw [j2]; exact (v2.1 i rfl).1) (v3.1 j rfl).1 (by rw [vi, vj]; exact hf)
    exact up (Ctx T3 _ S13 dm3 st) (by omega)
  · intro f env m s v s1 x s2 P k hv A1 G1 A2 G2 H1 H2 A T kap D hA Q E F G d0 hD Ctx
    have hs := P.2.2.1.1
    have hl := (TL m P.1).1
    have hz := (T1 m P.1).1
    have hm := P.1
    have hLL := (TL m P.1).2.2 (by omega)
    have he := tr_k3 T1 P.1 (by omega) (by omega)
    have hc1 := G1.2.1.1
    have hc2 := G2.2.1.1
    have hw1 := G1.1.1
    have hw2 := G2.1.1
    have dm := (F m (by omega) hz).1
    have em := (F m (by omega) hz).2
    have I1 := H1 A T kap (D + 1) hA Q (envc E P.1 (fun l => (B.1 m P.1 (by omega) l).1) (ev_X_r s) (fun _ _ => rfl) P.2.2.2 hA (yw_same_r A 0 0 s.1 T) (fun j a b => by omega) G) (sub F (by omega) (by omega)) G d0 (by omega) (ctx1 A m T s.1 D hA (by omega) P.1 (by omega) (by omega) dm Ctx)
    have I2 : ∀ T2 kap2, yw_Q K N lc sc n s1 kap2 T2 → (∀ k, k < s.2.1 → kap2 k = kap k) → yw_same A (m + 1) (e (m + 1)) s.1 T T2 → yw_G s1.1 T2 → yw_dn T2 (A * 48 + (m + 1)) = 1 → _ := fun T2 kap2 Q2 hk2 S2 G3 d2 => H2 A T2 kap2 (D + 1) (by omega) Q2 (envc E P.1 (fun l => (B.1 m P.1 (by omega) l).2.1) G1.2.1 hk2 P.2.2.2 hA S2 (fun j a b => (F j (by omega) (by omega)).1) G) (frs S2 hA (by omega) (by omega) (sub F (by omega) (by omega))) G3 (zero S2 (by omega) d0) (by omega) (ctx2 A m T T2 s.1 s1.1 D hA hc1 (by omega) P.1 (by omega) (by omega) dm S2 d2 Ctx)
    refine ⟨fun v h => nr h, fun y hy hJ => ?_⟩
    cases hy
    refine up (I1.1 _ rfl (294 + yw_c e (e (m + 1)) s1 s2) (fun T2 kap2 Q2 hk2 S2 G3 d2 v2 => ⟨fun z => by omega, fun _ => ?_⟩)) (by unfold yw_c; omega)
    refine up ((I2 T2 kap2 Q2 hk2 S2 G3 d2).1 _ rfl 294 (fun T3 kap3 Q3 hk3 S3 G4 d3 v3 => ⟨fun z => by omega, fun _ => ?_⟩)) (by omega)
    have hne2 : ¬ A * 48 + e (m + 1) = 0 := by omega
    obtain ⟨j1, j2, j3, j4⟩ := keep (m + 1) S3 (by omega) (by omega) (by omega)
    have j5 := (keep m S2 hA (by omega) (by omega))
    have j6 := (keep m S3 (by omega) (by omega) (by omega))
    have dm3 : yw_dn T3 (A * 48 + m) = 0 := by rw [j6.1, j5.1]; exact dm
    have em3 : yw_et T3 (A * 48 + m) = 0 := by rw [j6.2.2.2, j5.2.2.2]; exact em
    have S13 : yw_same A m (e m) s.1 T T3 := yw_same_t S2 S3 hc1 (by omega) (by omega) (by omega) (by omega)
    have hor : (∃ l, l < 16 ∧ yw_fn T3 (A * 48 + (m + 1)) = nI l) ∨ (yw_fn T3 (A * 48 + (m + 1)) = -1 ∧ ∃ l, l < 16 ∧ yw_fn T3 (A * 48 + e (m + 1)) = nI l) := by
      rw [j2]
      rcases v with i | k1
      · refine Or.inr ⟨(v2.1 i rfl).1, ?_⟩
        rcases hv with ⟨k2, z⟩ | ⟨k2, z⟩
        · cases z
        · obtain ⟨_, _, l16⟩ := lc16 G2.1 (G2.2.2.1 _ rfl k2 z)
          exact ⟨_, l16, (v3.2 k2 z).1⟩
      · obtain ⟨_, _, l16⟩ := lc16 G1.1 (G1.2.2.1 _ rfl k1 rfl)
        exact Or.inl ⟨_, l16, (v2.2 k1 rfl).1⟩
    have st := rsumS 0 A m T3 (by omega) P.1 k (by rw [j1]; exact d2) d3 hor (hJ T3 Q3.1 Q3.2.1 Q3.2.2.1)
    exact up (Ctx T3 _ S13 dm3 st) (by omega)
end
end
section
/-! ===== emission: the walk that writes the code of a piece that begins at node st ===== -/
/-- length, ops, nodes, targets, branch spots -/
abbrev em_S : Type := Nat × (Nat → Nat) × (Nat → Nat) × (Nat → Nat) × (Nat → Nat)
def em_R (K e lv sk : Nat → Nat) (st n : Nat) (Em : Nat → Sum Nat Nat → em_S → Prop) : Prop :=
  (∀ b d c a, Em b c a → Em (b + d) c a) ∧
  (∀ b m z oc nd tg bs, st ≤ m → m < n → K m = 0 → z < 113 → Em b (.inr m) (z + 1, tr_put oc z 1, tr_put nd z m, tg, bs) → Em (b + 1) (.inl m) (z, oc, nd, tg, bs)) ∧
  (∀ b m z oc nd tg bs, st ≤ m → m < n → K m = 1 → z < 113 → Em b (.inr m) (z + 1, tr_put oc z 0, tr_put nd z m, tg, bs) → Em (b + 1) (.inl m) (z, oc, nd, tg, bs)) ∧
  (∀ b m z oc nd tg bs, st ≤ m → m < n → K m = 2 → z < 113 → Em b (.inr m) (z + 1, tr_put oc z 2, tr_put nd z m, tg, bs) → Em (b + 1) (.inl m) (z, oc, nd, tg, bs)) ∧
  (∀ b m a, st ≤ m → m < n → 3 ≤ K m → Em b (.inl (m + 1)) a → Em (b + 1) (.inl m) a) ∧
  (∀ b m a, st ≤ m → m < n → 3 ≤ K m → K m ≠ 6 → Em b (.inl (e (m + 1))) a → Em (b + 1) (.inr (m + 1)) a) ∧
  (∀ b m z oc nd tg bs, st ≤ m → m < n → 3 ≤ K m → K m ≠ 6 → z < 113 → Em b (.inr m) (z + 1, tr_put oc z (if K m = 3 then sk m else 3), tr_put nd z m, tg, bs) → Em (b + 1) (.inr (e (m + 1))) (z, oc, nd, tg, bs)) ∧
  (∀ b m z oc nd tg bs, st ≤ m → m < n → K m = 6 → lv (e (m + 1)) ≠ 1 → z < 113 → Em b (.inr m) (z + 1, tr_put oc z 8, tr_put nd z m, tg, bs) → Em (b + 1) (.inr (m + 1)) (z, oc, nd, tg, bs)) ∧
  (∀ b m z oc nd tg bs, st ≤ m → m < n → K m = 6 → lv (e (m + 1)) = 1 → z < 113 → Em b (.inl (e (m + 1))) (z + 1, tr_put oc z 4, tr_put nd z m, tg, tr_put bs m z) → Em (b + 1) (.inr (m + 1)) (z, oc, nd, tg, bs)) ∧
  (∀ b m z y oc nd tg bs, st ≤ m → m < n → K m = 6 → z < 113 → bs m = y → y < z → Em b (.inl (e (e (m + 1)))) (z + 1, tr_put oc z 5, tr_put nd z m, tr_put tg y (z + 1), bs) → Em (b + 1) (.inr (e (m + 1))) (z, oc, nd, tg, bs)) ∧
  (∀ b m z y x oc nd tg bs, st ≤ m → m < n → K m = 6 → bs m = y → y < 113 → tg y = x + 1 → x < 113 → z ≤ 113 → Em b (.inr m) (z, oc, nd, tr_put tg x z, bs) → Em (b + 1) (.inr (e (e (m + 1)))) (z, oc, nd, tg, bs))
/-- kc counts the nodes of the piece in a subtree -/
def em_K (K e kc : Nat → Nat) (n : Nat) : Prop := ∀ m, m < n → 1 ≤ kc m ∧ (3 ≤ K m → K m ≠ 6 → kc (m + 1) + kc (e (m + 1)) + 1 ≤ kc m) ∧ (K m = 6 → kc (m + 1) + kc (e (m + 1)) + kc (e (e (m + 1))) + 1 ≤ kc m)
def em_ag (z : Nat) (oc nd tg oc' nd' tg' : Nat → Nat) : Prop := ∀ j, j < z → oc' j = oc j ∧ nd' j = nd j ∧ tg' j = tg j
theorem em_ag_t {z z' : Nat} {oc nd tg oc' nd' tg' oc2 nd2 tg2 : Nat → Nat} (h : em_ag z oc nd tg oc' nd' tg') (g : em_ag z' oc' nd' tg' oc2 nd2 tg2) (hz : z ≤ z') : em_ag z oc nd tg oc2 nd2 tg2 := fun j hj => by
  obtain ⟨a, b, c⟩ := h j hj
  obtain ⟨a', b', c'⟩ := g j (by omega)
  exact ⟨a'.trans a, b'.trans b, c'.trans c⟩
theorem em_put {z : Nat} (oc nd tg : Nat → Nat) (o m : Nat) : em_ag z oc nd tg (tr_put oc z o) (tr_put nd z m) tg := fun j hj => ⟨tr_put_n oc o (by omega), tr_put_n nd m (by omega), rfl⟩
section
variable {K e lv sk kc : Nat → Nat} {st n : Nat} {Em : Nat → Sum Nat Nat → em_S → Prop}
theorem em_la {lo hi d m a z : Nat} {oc nd tg oc' nd' tg' : Nat → Nat} (h : la_c K e lv sk oc nd tg d m a z) (g : em_ag hi oc nd tg oc' nd' tg') (hz : z ≤ hi) : la_c K e lv sk oc' nd' tg' d m a z :=
  la_keep 0 hi (fun j _ hj => ⟨(g j hj).1, (g j hj).2.1, fun _ => (g j hj).2.2⟩) d m a z (Nat.zero_le _) hz h
theorem em_run (T1 : tr_T K e n) (h48 : n ≤ 48) (T4 : ∀ m, m < n → K m ≤ 6) (Kc : em_K K e kc n) (Ru : em_R K e lv sk st n Em) : ∀ d m, st ≤ m → m < n → e m - m ≤ d → ∀ b z oc nd tg bs, z + 2 * kc m ≤ 113 →
    (∀ z' oc' nd' tg' bs', la_c K e lv sk oc' nd' tg' d m z z' → z' ≤ z + 2 * kc m → em_ag z oc nd tg oc' nd' tg' → (∀ p, p < m → bs' p = bs p) → Em b (.inr m) (z', oc', nd', tg', bs')) → Em (b + 4 * (e m - m)) (.inl m) (z, oc, nd, tg, bs) := by
  have up : ∀ {b d : Nat} {c : Sum Nat Nat} {a : em_S}, Em b c a → b ≤ d → Em d c a := fun {b d c a} h hd => by
    have := Ru.1 b (d - b) c a h
    rwa [Nat.add_sub_cancel' hd] at this
  obtain ⟨_, r0, r1, r2, rin, rnx, rop, rdead, rbr, rjm, rend⟩ := Ru
  intro d
  induction d with
  | zero =>
    intro m hs hm hd
    have := (T1 m hm).1
    omega
  | succ d ih =>
    intro m hs hm hd b z oc nd tg bs hz fin
    have h6 := T4 m hm
    have hlt := (T1 m hm).1
    obtain ⟨kc1, kc2, kc3⟩ := Kc m hm
    by_cases k0 : K m = 0
    · refine up (r0 b m z oc nd tg bs hs hm k0 (by omega) (fin _ _ _ _ _ ?_ (by omega) (em_put oc nd tg 1 m) (fun _ _ => rfl))) (by omega)
      exact ⟨fun _ => ⟨tr_put_s _ _ _, tr_put_s _ _ _, rfl⟩, fun k => by omega, fun k => by omega, fun k => by omega, fun k => by omega, fun k => by omega⟩
    by_cases k1 : K m = 1
    · refine up (r1 b m z oc nd tg bs hs hm k1 (by omega) (fin _ _ _ _ _ ?_ (by omega) (em_put oc nd tg 0 m) (fun _ _ => rfl))) (by omega)
      exact ⟨fun k => by omega, fun _ => ⟨tr_put_s _ _ _, tr_put_s _ _ _, rfl⟩, fun k => by omega, fun k => by omega, fun k => by omega, fun k => by omega⟩
    by_cases k2 : K m = 2
    · refine up (r2 b m z oc nd tg bs hs hm k2 (by omega) (fin _ _ _ _ _ ?_ (by omega) (em_put oc nd tg 2 m) (fun _ _ => rfl))) (by omega)
      exact ⟨fun k => by omega, fun k => by omega, fun _ => ⟨tr_put_s _ _ _, tr_put_s _ _ _, rfl⟩, fun k => by omega, fun k => by omega, fun k => by omega⟩
    have k3 : 3 ≤ K m := by omega
    by_cases k6 : K m = 6
    · have he := tr_k6 T1 hm k6
      have hk := kc3 k6
      by_cases q : lv (e (m + 1)) = 1
      · -- test, BRANCH, then, JUMP, else
        refine up (rin _ m _ hs hm k3 (ih (m + 1) (by omega) (by omega) (by omega) (b + 4 * (e (e (m + 1)) - e (m + 1)) + 4 * (e (e (e (m + 1))) - e (e (m + 1))) + 3) z oc nd tg bs (by omega) (fun z1 oc1 nd1 tg1 bs1 l1 u1 g1 c1 => ?_))) (by omega)
        have lt1 := la_lt _ _ _ _ l1
        refine up (rbr _ m z1 oc1 nd1 tg1 bs1 hs hm k6 q (by omega) (ih (e (m + 1)) (by omega) (by omega) (by omega) (b + 4 * (e (e (e (m + 1))) - e (e (m + 1))) + 2) (z1 + 1) _ _ _ _ (by omega) (fun z2 oc2 nd2 tg2 bs2 l2 u2 g2 c2 => ?_))) (by omega)
        have lt2 := la_lt _ _ _ _ l2
        have hb2 : bs2 m = z1 := by rw [c2 m (by omega), tr_put_s]
        refine up (rjm _ m z2 z1 oc2 nd2 tg2 bs2 hs hm k6 (by omega) hb2 (by omega) (ih (e (e (m + 1))) (by omega) (by omega) (by omega) (b + 1) (z2 + 1) _ _ _ _ (by omega) (fun z3 oc3 nd3 tg3 bs3 l3 u3 g3 c3 => ?_))) (by omega)
        have lt3 := la_lt _ _ _ _ l3
        have hb3 : bs3 m = z1 := by rw [c3 m (by omega)]; exact hb2
        have ht3 : tg3 z1 = z2 + 1 := by rw [(g3 z1 (by omega)).2.2, tr_put_s]
        refine rend b m z3 z1 z2 oc3 nd3 tg3 bs3 hs hm k6 hb3 (by omega) ht3 (by omega) (by omega) (fin z3 oc3 nd3 (tr_put tg3 z2 z3) bs3 ?_ (by omega) ?_ (fun p hp => ?_))
        · refine ⟨fun k => by omega, fun k => by omega, fun k => by omega, fun _ k => absurd k6 k, fun _ _ => ?_, fun _ k => absurd q k⟩
          -- what stood at each time stands at the end
          have a3 : ∀ j, j < z1 → oc3 j = oc1 j ∧ nd3 j = nd1 j ∧ tr_put tg3 z2 z3 j = tg1 j := fun j hj => by
            have x3 := g3 j (by omega)
            have x2 := g2 j (by omega)
            refine ⟨?_, ?_, ?_⟩
            · rw [x3.1, tr_put_n _ _ (by omega), x2.1, tr_put_n _ _ (by omega)]
            · rw [x3.2.1, tr_put_n _ _ (by omega), x2.2.1, tr_put_n _ _ (by omega)]
            · rw [tr_put_n _ _ (by omega), x3.2.2, tr_put_n _ _ (by omega), x2.2.2]
          have a4 : ∀ j, z1 < j → j < z2 → oc3 j = oc2 j ∧ nd3 j = nd2 j ∧ tr_put tg3 z2 z3 j = tg2 j := fun j hj hj' => by
            have x3 := g3 j (by omega)
            refine ⟨?_, ?_, ?_⟩
            · rw [x3.1, tr_put_n _ _ (by omega)]
            · rw [x3.2.1, tr_put_n _ _ (by omega)]
            · rw [tr_put_n _ _ (by omega), x3.2.2, tr_put_n _ _ (by omega)]
          refine ⟨z1, z2, ?_, ?_, ?_, ?_, ?_, ?_, ?_, ?_, tr_put_s _ _ _⟩
          · exact la_keep 0 z1 (fun j _ hj => ⟨(a3 j hj).1, (a3 j hj).2.1, fun _ => (a3 j hj).2.2⟩) d _ _ _ (Nat.zero_le _) (Nat.le_refl _) l1
          · rw [(g3 z1 (by omega)).1, tr_put_n _ _ (by omega), (g2 z1 (by omega)).1, tr_put_s]
          · rw [(g3 z1 (by omega)).2.1, tr_put_n _ _ (by omega), (g2 z1 (by omega)).2.1, tr_put_s]
          · exact la_keep (z1 + 1) z2 (fun j h1 hj => ⟨(a4 j h1 hj).1, (a4 j h1 hj).2.1, fun _ => (a4 j h1 hj).2.2⟩) d _ _ _ (Nat.le_refl _) (Nat.le_refl _) l2
          · rw [(g3 z2 (by omega)).1, tr_put_s]
          · rw [(g3 z2 (by omega)).2.1, tr_put_s]
          · rw [tr_put_n _ _ (by omega)]; exact ht3
          · exact la_keep (z2 + 1) z3 (fun j h1 hj => ⟨rfl, rfl, fun _ => tr_put_n _ _ (by omega)⟩) d _ _ _ (Nat.le_refl _) (Nat.le_refl _) l3
        · intro j hj
          have x1 := g1 j hj
          have x2 := g2 j (by omega)
          have x3 := g3 j (by omega)
          refine ⟨?_, ?_, ?_⟩
          · rw [x3.1, tr_put_n _ _ (by omega), x2.1, tr_put_n _ _ (by omega), x1.1]
          · rw [x3.2.1, tr_put_n _ _ (by omega), x2.2.1, tr_put_n _ _ (by omega), x1.2.1]
          · rw [tr_put_n _ _ (by omega), x3.2.2, tr_put_n _ _ (by omega), x2.2.2, x1.2.2]
        · rw [c3 p (by omega), c2 p (by omega), tr_put_n _ _ (by omega), c1 p (by omega)]
      · -- test, STICK
        refine up (rin _ m _ hs hm k3 (ih (m + 1) (by omega) (by omega) (by omega) (b + 1) z oc nd tg bs (by omega) (fun z1 oc1 nd1 tg1 bs1 l1 u1 g1 c1 => ?_))) (by omega)
        have lt1 := la_lt _ _ _ _ l1
        refine rdead b m z1 oc1 nd1 tg1 bs1 hs hm k6 q (by omega) (fin _ _ _ _ _ ?_ (by omega) (em_ag_t g1 (em_put oc1 nd1 tg1 8 m) (by omega)) (fun p hp => c1 p (by omega)))
        exact ⟨fun k => by omega, fun k => by omega, fun k => by omega, fun _ k => absurd k6 k, fun _ k => absurd k q, fun _ _ => ⟨z1, la_keep 0 z1 (fun j _ hj => ⟨tr_put_n _ _ (by omega), tr_put_n _ _ (by omega), fun _ => rfl⟩) d _ _ _ (Nat.zero_le _) (Nat.le_refl _) l1, tr_put_s _ _ _, tr_put_s _ _ _, rfl⟩⟩
    · have he := tr_k3 T1 hm k3 k6
      have hk := kc2 k3 k6
      refine up (rin _ m _ hs hm k3 (ih (m + 1) (by omega) (by omega) (by omega) (b + 4 * (e (e (m + 1)) - e (m + 1)) + 2) z oc nd tg bs (by omega) (fun z1 oc1 nd1 tg1 bs1 l1 u1 g1 c1 => ?_))) (by omega)
      have lt1 := la_lt _ _ _ _ l1
      refine up (rnx _ m _ hs hm k3 k6 (ih (e (m + 1)) (by omega) (by omega) (by omega) (b + 1) z1 oc1 nd1 tg1 bs1 (by omega) (fun z2 oc2 nd2 tg2 bs2 l2 u2 g2 c2 => ?_))) (by omega)
      have lt2 := la_lt _ _ _ _ l2
      refine rop b m z2 oc2 nd2 tg2 bs2 hs hm k3 k6 (by omega) (fin _ _ _ _ _ ?_ (by omega) (em_ag_t (em_ag_t g1 g2 (by omega)) (em_put oc2 nd2 tg2 _ m) (by omega)) (fun p hp => (c2 p (by omega)).trans (c1 p (by omega))))
      refine ⟨fun k => by omega, fun k => by omega, fun k => by omega, fun _ _ => ⟨z1, z2, ?_, ?_, tr_put_s _ _ _, tr_put_s _ _ _, rfl⟩, fun k => absurd k k6, fun k => absurd k k6⟩
      · exact la_keep 0 z1 (fun j _ hj => ⟨(tr_put_n _ _ (by omega)).trans (g2 j hj).1, (tr_put_n _ _ (by omega)).trans (g2 j hj).2.1, fun _ => (g2 j hj).2.2⟩) d _ _ _ (Nat.zero_le _) (Nat.le_refl _) l1
      · exact la_keep 0 z2 (fun j _ hj => ⟨tr_put_n _ _ (by omega), tr_put_n _ _ (by omega), fun _ => rfl⟩) d _ _ _ (Nat.zero_le _) (Nat.le_refl _) l2
end
end
section
/-! ===== the room for the code: the nodes of a piece are those of one key ===== -/
def em_f (ky : Nat → Nat) (k : Nat) : Nat → Nat := fun j => if ky j = k then 1 else 0
def em_kc (ky e : Nat → Nat) (m : Nat) : Nat := tr_sum (em_f ky (ky m)) (e m) - tr_sum (em_f ky (ky m)) m
theorem tr_sum_mono (f : Nat → Nat) {a b : Nat} (h : a ≤ b) : tr_sum f a ≤ tr_sum f b := by
  obtain ⟨d, rfl⟩ : ∃ d, b = a + d := ⟨b - a, by omega⟩
  clear h
  induction d with
  | zero => exact Nat.le_refl _
  | succ d ih =>
    show tr_sum f a ≤ tr_sum f (a + d) + f (a + d)
    omega
def em_ky (K e ky : Nat → Nat) (n : Nat) : Prop := ∀ p, p < n → 3 ≤ K p → ky (p + 1) = ky p ∧ ky (e (p + 1)) = ky p ∧ (K p = 6 → ky (e (e (p + 1))) = ky p)
theorem em_K_of {K e ky : Nat → Nat} {n : Nat} (T : tr_T K e n) (Y : em_ky K e ky n) : em_K K e (em_kc ky e) n := by
  intro m hm
  have h1 : tr_sum (em_f ky (ky m)) (m + 1) = tr_sum (em_f ky (ky m)) m + 1 := by
    show tr_sum (em_f ky (ky m)) m + (if ky m = ky m then 1 else 0) = _
    rw [if_pos rfl]
  have h2 := tr_sum_mono (em_f ky (ky m)) (show m + 1 ≤ e m from (T m hm).1)
  refine ⟨?_, fun k k6 => ?_, fun k6 => ?_⟩
  · unfold em_kc; omega
  · obtain ⟨y1, y2, _⟩ := Y m hm k
    have he := tr_k3 T hm k k6
    have h3 := tr_sum_mono (em_f ky (ky m)) (show m + 1 ≤ e (m + 1) by omega)
    have h4 := tr_sum_mono (em_f ky (ky m)) (show e (m + 1) ≤ e (e (m + 1)) by omega)
    unfold em_kc
    rw [y1, y2, he.2.2.2.2.2]
    omega
  · obtain ⟨y1, y2, y3⟩ := Y m hm (by omega)
    have he := tr_k6 T hm k6
    have h3 := tr_sum_mono (em_f ky (ky m)) (show m + 1 ≤ e (m + 1) by omega)
    have h4 := tr_sum_mono (em_f ky (ky m)) (show e (m + 1) ≤ e (e (m + 1)) by omega)
    have h5 := tr_sum_mono (em_f ky (ky m)) (show e (e (m + 1)) ≤ e (e (e (m + 1))) by omega)
    unfold em_kc
    rw [y1, y2, y3 k6, he.2.2.2.2.2.2.2]
    omega
/-- nodes with a key below j -/
def em_dd (ky : Nat → Nat) (n j : Nat) : Nat := tr_sum (fun i => if ky i < j then 1 else 0) n
theorem em_dd_s (ky : Nat → Nat) (n j : Nat) : em_dd ky n (j + 1) = em_dd ky n j + tr_sum (em_f ky j) n := by
  unfold em_dd
  rw [← tr_sum_add]
  refine tr_sum_c n (fun i _ => ?_)
  show (if ky i < j + 1 then 1 else 0) = (if ky i < j then 1 else 0) + (if ky i = j then 1 else 0)
  by_cases a : ky i < j
  · rw [if_pos a, if_pos (by omega), if_neg (by omega)]
  · by_cases b : ky i = j
    · rw [if_neg a, if_pos b, if_pos (by omega)]
    · rw [if_neg a, if_neg b, if_neg (by omega)]
theorem em_dd_n (ky : Nat → Nat) (n j : Nat) : em_dd ky n j ≤ n := by
  have := tr_sum_bd (f := fun i => if ky i < j then 1 else 0) (c := 1) n (fun i _ => by
    show (if ky i < j then 1 else 0) ≤ 1
    by_cases a : ky i < j
    · rw [if_pos a]; exact Nat.le_refl _
    · rw [if_neg a]; exact Nat.zero_le _)
  unfold em_dd
  omega
theorem em_kc_le {ky e : Nat → Nat} {n m j : Nat} (h : e m ≤ n) (k : ky m = j) : em_kc ky e m ≤ tr_sum (em_f ky j) n := by
  have := tr_sum_mono (em_f ky (ky m)) h
  unfold em_kc
  rw [k] at this ⊢
  omega
/-- the room before piece j is enough -/
theorem em_room {ky e : Nat → Nat} {n m j z : Nat} (hn : n ≤ 48) (hj : j ≤ 16) (h : e m ≤ n) (k : ky m = j) (hz : z ≤ 2 * em_dd ky n j + j) : z + 2 * em_kc ky e m ≤ 113 ∧ z + 2 * em_kc ky e m < 113 ∧ ∀ z', z' ≤ z + 2 * em_kc ky e m → z' + 1 ≤ 2 * em_dd ky n (j + 1) + (j + 1) := by
  have h1 := em_kc_le h k
  have h2 := em_dd_s ky n j
  have h3 := em_dd_n ky n (j + 1)
  exact ⟨by omega, by omega, fun z' hz' => by omega⟩
end
section
/-! ===== from parents to children: what a complete tree gives ===== -/
theorem tr_par1 {K P : Nat → Nat} {n p : Nat} (O : tr_Ok K P n) (F : tr_Full K P n) (hp : p < n) (h : 2 ≤ K p) : p + 1 < n ∧ P (p + 1) = p := by
  have ha : 0 < tr_ar (K p) := by
    by_cases k : K p = 2
    · rw [tr_ar_1 k]; omega
    · by_cases k6 : K p = 6
      · rw [tr_ar_3 k6]; omega
      · rw [tr_ar_2 (by omega) k6]; omega
  obtain ⟨a, b, _⟩ := tr_first O F hp ha
  exact ⟨a, b⟩
theorem tr_par2 {K P : Nat → Nat} {n p : Nat} (O : tr_Ok K P n) (F : tr_Full K P n) (hp : p < n) (h : 3 ≤ K p) : p + 1 < tr_e P n (p + 1) ∧ tr_e P n (p + 1) < n ∧ P (tr_e P n (p + 1)) = p := by
  have ha : 2 ≤ tr_ar (K p) := by
    by_cases k6 : K p = 6
    · rw [tr_ar_3 k6]; omega
    · rw [tr_ar_2 h k6]; omega
  obtain ⟨a, b, _⟩ := tr_kid1 O F hp ha
  exact ⟨(tr_e_spec (P := P) (n := n) (tr_par1 O F hp (by omega)).1).1, a, b⟩
theorem tr_par3 {K P : Nat → Nat} {n p : Nat} (O : tr_Ok K P n) (F : tr_Full K P n) (hp : p < n) (h : K p = 6) : p + 1 < tr_e P n (tr_e P n (p + 1)) ∧ tr_e P n (tr_e P n (p + 1)) < n ∧ P (tr_e P n (tr_e P n (p + 1))) = p := by
  obtain ⟨a, b, _⟩ := tr_kid2 O F hp (by rw [tr_ar_3 h]; omega)
  obtain ⟨c, d, _⟩ := tr_par2 O F hp (by omega)
  have := (tr_e_spec (P := P) (n := n) d).1
  exact ⟨by omega, a, b⟩
/-- levels -/
def tr_V (K P Lv : Nat → Nat) (n : Nat) : Prop := ∀ m, m < n → Lv m ≤ 5 ∧ (m = 0 → Lv m = 0) ∧ (0 < m → Lv m = (if K (P m) = 2 then 0 else Lv (P m) + 1))
section
variable {K P N Lv : Nat → Nat} {sc : Nat → Nat → Bool} {n : Nat}
theorem tr_C_of (O : tr_Ok K P n) (F : tr_Full K P n) (Nn : tr_N K P N n) : tr_C K (tr_e P n) N n := by
  intro p hp
  refine ⟨fun k => ?_, fun k => ⟨?_, ?_, fun k6 => ?_⟩⟩
  · obtain ⟨a, b⟩ := tr_par1 O F hp (by omega)
    rw [(Nn _ a).2 (by omega), b, if_pos k]
  · obtain ⟨a, b⟩ := tr_par1 O F hp (by omega)
    rw [(Nn _ a).2 (by omega), b, if_neg (by omega), Nat.add_zero]
  · obtain ⟨c, a, b⟩ := tr_par2 O F hp k
    rw [(Nn _ a).2 (by omega), b, if_neg (by omega), Nat.add_zero]
  · obtain ⟨c, a, b⟩ := tr_par3 O F hp k6
    rw [(Nn _ a).2 (by omega), b, if_neg (by omega), Nat.add_zero]
theorem tr_L_of (O : tr_Ok K P n) (F : tr_Full K P n) (V : tr_V K P Lv n) : tr_L K (tr_e P n) Lv n := by
  intro p hp
  refine ⟨(V p hp).1, fun k => ?_, fun k => ⟨?_, ?_, fun k6 => ?_⟩⟩
  · obtain ⟨a, b⟩ := tr_par1 O F hp (by omega)
    rw [(V _ a).2.2 (by omega), b, if_pos k]
  · obtain ⟨a, b⟩ := tr_par1 O F hp (by omega)
    rw [(V _ a).2.2 (by omega), b, if_neg (by omega)]
  · obtain ⟨c, a, b⟩ := tr_par2 O F hp k
    rw [(V _ a).2.2 (by omega), b, if_neg (by omega)]
  · obtain ⟨c, a, b⟩ := tr_par3 O F hp k6
    rw [(V _ a).2.2 (by omega), b, if_neg (by omega)]
theorem tr_sc_kid (S : tr_S K P sc n) {p c : Nat} (hc : c < n) (h0 : 0 < c) (hp : P c = p) (k : K p ≠ 2) (l : Nat) : sc c l = sc p l := by
  rw [(S c hc).2 h0 l, hp, decide_eq_false k, Bool.false_and, Bool.or_false]
/-- bl: the binder's lambda; ix: its place among the bindings; bd: bodies -/
theorem so_B_of {bl ix bd : Nat → Nat} {L : Nat} (O : tr_Ok K P n) (F : tr_Full K P n) (Nn : tr_N K P N n) (S : tr_S K P sc n) (hL : L = tr_lc K n) (hbd : ∀ m, m < n → K m = 2 → bd (tr_lc K m) = m + 1) (hv : ∀ m, m < n → K m = 0 → ∃ b, b < n ∧ K b = 2 ∧ sc m (tr_lc K b) = true ∧ bl m = tr_lc K b ∧ ix m = N b) : so_B K (tr_e P n) N ix bl (tr_lc K) bd sc n L := by
  refine ⟨fun m hm k l => ⟨?_, ?_, fun k6 => ?_⟩, fun m hm k l h => ?_, fun m hm k => ⟨hbd m hm k, ?_⟩, hv, fun m hm b hb kb h => (tr_sc_nest O Nn S hm kb h).2.1, fun a b _ _ ka kb h => tr_lc_inj ka kb h⟩
  · obtain ⟨a, b⟩ := tr_par1 O F hm (by omega)
    exact tr_sc_kid S a (by omega) b (by omega) l
  · obtain ⟨c, a, b⟩ := tr_par2 O F hm k
    exact tr_sc_kid S a (by omega) b (by omega) l
  · obtain ⟨c, a, b⟩ := tr_par3 O F hm k6
    exact tr_sc_kid S a (by omega) b (by omega) l
  · obtain ⟨a, b⟩ := tr_par1 O F hm (by omega)
    obtain ⟨_, h1⟩ := tr_sc_up S a h
    rw [b] at h1
    exact h1.imp id (fun z => z.2)
  · rw [hL]; exact tr_lc_lt hm k
end
/-! keys of pieces -/
def tr_kyf (K P : Nat → Nat) : Nat → Nat → Nat
  | 0, _ => 0
  | d + 1, m => if m = 0 then 0 else if K (P m) = 2 then tr_lc K (P m) + 1 else tr_kyf K P d (P m)
theorem tr_kyf_s {K P : Nat → Nat} {n : Nat} (O : tr_Ok K P n) : ∀ d m, m < n → m ≤ d → tr_kyf K P (d + 1) m = tr_kyf K P d m := by
  intro d
  induction d with
  | zero =>
    intro m hm h
    have : m = 0 := by omega
    subst this
    exact if_pos rfl
  | succ d ih =>
    intro m hm h
    show (if m = 0 then 0 else if K (P m) = 2 then tr_lc K (P m) + 1 else tr_kyf K P (d + 1) (P m)) = (if m = 0 then 0 else if K (P m) = 2 then tr_lc K (P m) + 1 else tr_kyf K P d (P m))
    by_cases z : m = 0
    · rw [if_pos z, if_pos z]
    · have := (O m (by omega) hm).1
      rw [if_neg z, if_neg z, ih (P m) (by omega) (by omega)]
theorem tr_ky_eq {K P : Nat → Nat} {n m : Nat} (O : tr_Ok K P n) (h48 : n ≤ 48) (hm : m < n) (h0 : 0 < m) : tr_kyf K P 48 m = (if K (P m) = 2 then tr_lc K (P m) + 1 else tr_kyf K P 48 (P m)) := by
  have hp := (O m h0 hm).1
  show (if m = 0 then 0 else if K (P m) = 2 then tr_lc K (P m) + 1 else tr_kyf K P 47 (P m)) = _
  rw [if_neg (by omega), tr_kyf_s O 47 (P m) (by omega) (by omega)]
theorem tr_ky_of {K P : Nat → Nat} {n : Nat} (O : tr_Ok K P n) (F : tr_Full K P n) (h48 : n ≤ 48) : em_ky K (tr_e P n) (tr_kyf K P 48) n ∧ tr_kyf K P 48 0 = 0 ∧ ∀ m, m < n → K m = 2 → tr_kyf K P 48 (m + 1) = tr_lc K m + 1 := by
  refine ⟨fun p hp k => ⟨?_, ?_, fun k6 => ?_⟩, rfl, fun m hm k => ?_⟩
  · obtain ⟨a, b⟩ := tr_par1 O F hp (by omega)
    rw [tr_ky_eq O h48 a (by omega), b, if_neg (by omega)]
  · obtain ⟨c, a, b⟩ := tr_par2 O F hp k
    rw [tr_ky_eq O h48 a (by omega), b, if_neg (by omega)]
  · obtain ⟨c, a, b⟩ := tr_par3 O F hp k6
    rw [tr_ky_eq O h48 a (by omega), b, if_neg (by omega)]
  · obtain ⟨a, b⟩ := tr_par1 O F hm (by omega)
    rw [tr_ky_eq O h48 a (by omega), b, if_pos k]
end
section
/-! ===== masks: naturals as ints ===== -/
theorem bi_or (a b : Nat) : nI a ||| nI b = nI (a ||| b) := by
  apply Int32.toBitVec_inj.1
  show BitVec.ofNat 32 a ||| BitVec.ofNat 32 b = BitVec.ofNat 32 (a ||| b)
  apply BitVec.eq_of_getLsbD_eq
  intro i hi
  simp [hi]
theorem bi_and (a b : Nat) : nI a &&& nI b = nI (a &&& b) := by
  apply Int32.toBitVec_inj.1
  show BitVec.ofNat 32 a &&& BitVec.ofNat 32 b = BitVec.ofNat 32 (a &&& b)
  apply BitVec.eq_of_getLsbD_eq
  intro i hi
  simp [hi]
theorem bi_shl : ∀ l, l < 31 → ((1 : Int32) <<< (nI l &&& 31)) = nI (2 ^ l) := by decide +kernel
theorem bi_0 {a : Nat} (h : a < 2 ^ 31) : nI a = 0 ↔ a = 0 := by
  rw [← nI_0, nI_eq h (by omega)]
theorem bi_tb (a l : Nat) : a &&& 2 ^ l = 0 ↔ a.testBit l = false := by
  constructor
  · intro h
    have h' : (a &&& 2 ^ l).testBit l = false := by rw [h, Nat.zero_testBit]
    rw [Nat.testBit_and, Nat.testBit_two_pow_self, Bool.and_true] at h'
    exact h'
  · intro h
    apply Nat.eq_of_testBit_eq
    intro i
    rw [Nat.testBit_and, Nat.testBit_two_pow, Nat.zero_testBit]
    by_cases e : l = i
    · subst e; rw [h, Bool.false_and]
    · rw [decide_eq_false e, Bool.and_false]
theorem bi_le {a b : Nat} (h : a < 2 ^ 31) : a &&& b < 2 ^ 31 := Nat.lt_of_le_of_lt Nat.and_le_left h
theorem bi_test {a l : Nat} (ha : a < 2 ^ 31) (hl : l < 31) : nI a &&& ((1 : Int32) <<< (nI l &&& 31)) = 0 ↔ a.testBit l = false := by
  rw [bi_shl l hl, bi_and, bi_0 (bi_le ha), bi_tb]
theorem bi_sl : ∀ l, l < 32 → ((nI l &&& 31).toBitVec.smod 32).toNat = l := by decide +kernel
theorem bi_shr {a l : Nat} (ha : a < 2 ^ 31) (hl : l < 32) : nI a >>> (nI l &&& 31) &&& 1 = 0 ↔ a.testBit l = false := by
  rw [pk_shrN ha _ l (bi_sl l hl)]
  have h1 : a / 2 ^ l ≤ a := Nat.div_le_self _ _
  show nI (a / 2 ^ l) &&& nI 1 = 0 ↔ _
  rw [bi_and, Nat.and_one_is_mod, bi_0 (by omega), Nat.testBit_eq_decide_div_mod_eq, decide_eq_false_iff_not]
  generalize a / 2 ^ l = z
  omega
theorem bi_bit (a : Nat) {i : Nat} (hi : i < 32) : (nI a).toBitVec.getLsbD i = a.testBit i := by
  show (BitVec.ofNat 32 a).getLsbD i = _
  rw [BitVec.getLsbD_ofNat]
  simp [hi]
theorem bi_m1 : ∀ i, i < 32 → (-1 : Int32).toBitVec.getLsbD i = true := by decide +kernel
theorem bi_new {a m : Nat} (hm : m < 2 ^ 31) : nI m &&& (nI a ^^^ (-1)) = 0 ↔ so_sub m a := by
  constructor
  · intro h
    refine so_sub_bit.mpr (fun i hi => ?_)
    have h31 : i < 31 := by
      rcases Nat.lt_or_ge i 31 with q | q
      · exact q
      · have h2 : m < 2 ^ i := Nat.lt_of_lt_of_le hm (Nat.pow_le_pow_right (by decide) q)
        rw [Nat.testBit_lt_two_pow h2] at hi
        cases hi
    have h' : (nI m &&& (nI a ^^^ (-1))).toBitVec.getLsbD i = (0 : Int32).toBitVec.getLsbD i := by rw [h]
    rw [Int32.toBitVec_and, BitVec.getLsbD_and, Int32.toBitVec_xor, BitVec.getLsbD_xor, bi_m1 i (by omega), bi_bit m (by omega), bi_bit a (by omega), hi] at h'
    have h0 : (0 : Int32).toBitVec.getLsbD i = false := BitVec.getLsbD_zero
    rw [h0] at h'
    cases e : a.testBit i with
    | true => rfl
    | false => rw [e] at h'; cases h'
  · intro h
    apply Int32.toBitVec_inj.1
    apply BitVec.eq_of_getLsbD_eq
    intro i hi
    have h0 : (0 : Int32).toBitVec.getLsbD i = false := BitVec.getLsbD_zero
    rw [Int32.toBitVec_and, BitVec.getLsbD_and, Int32.toBitVec_xor, BitVec.getLsbD_xor, bi_m1 i hi, bi_bit m hi, bi_bit a hi, h0]
    cases e : m.testBit i with
    | false => rfl
    | true => rw [so_sub_bit.mp h i e]; rfl
theorem bi_16 {a : Nat} (ha : a < 2 ^ 31) : nI a &&& 65536 = 0 ↔ a.testBit 16 = false := by
  show nI a &&& nI 65536 = 0 ↔ _
  rw [bi_and, bi_0 (bi_le ha)]
  exact bi_tb a 16
theorem bi_65535 {a : Nat} (ha : a < 2 ^ 31) : nI a &&& 65535 = 0 ↔ a % 65536 = 0 := by
  show nI a &&& nI 65535 = 0 ↔ _
  rw [bi_and, bi_0 (bi_le ha), show (65535 : Nat) = 2 ^ 16 - 1 from rfl, Nat.and_two_pow_sub_one_eq_mod]
theorem bi_low {a : Nat} (ha : a < 2 ^ 31) (h0 : 0 < a) : nI a &&& (nI a - 1) = 0 ↔ a &&& (a - 1) = 0 := by
  have e : nI a - 1 = nI (a - 1) := by
    have h := nI_pred (a - 1)
    rwa [Nat.sub_add_cancel h0] at h
  rw [e, bi_and, bi_0 (bi_le ha)]
/-! ===== values as longs ===== -/
def bi_enc (v : ev_V) : Int64 := match v with
  | .inl i => i.toInt64 &&& 4294967295
  | .inr k => 4294967296 ||| (nI k).toInt64
theorem bi_m32 : ∀ i, i < 64 → (4294967295 : Int64).toBitVec.getLsbD i = decide (i < 32) := by decide +kernel
theorem bi_c32 : ∀ i, i < 64 → (4294967296 : Int64).toBitVec.getLsbD i = decide (i = 32) := by decide +kernel
theorem bi_i (i : Int32) : (i.toInt64 &&& 4294967295).toInt32 = i := by
  apply Int32.toBitVec_inj.1
  apply BitVec.eq_of_getLsbD_eq
  intro j hj
  show ((i.toInt64 &&& 4294967295).toBitVec.signExtend 32).getLsbD j = _
  rw [BitVec.getLsbD_signExtend, if_pos (show j < 64 by omega), Int64.toBitVec_and, BitVec.getLsbD_and, bi_m32 j (by omega), decide_eq_true hj, Bool.true_and, Bool.and_true]
  show (i.toBitVec.signExtend 64).getLsbD j = _
  rw [BitVec.getLsbD_signExtend, if_pos hj, decide_eq_true (show j < 64 by omega), Bool.true_and]
theorem bi_n (i : Int32) : (i.toInt64 &&& 4294967295) &&& 4294967296 = 0 := by
  apply Int64.toBitVec_inj.1
  apply BitVec.eq_of_getLsbD_eq
  intro j hj
  have h0 : (0 : Int64).toBitVec.getLsbD j = false := BitVec.getLsbD_zero
  rw [Int64.toBitVec_and, BitVec.getLsbD_and, Int64.toBitVec_and, BitVec.getLsbD_and, bi_m32 j hj, bi_c32 j hj, h0]
  by_cases z : j = 32
  · subst z; simp
  · simp [z]
theorem bi_z (i : Int32) : i.toInt64 &&& 4294967295 = 0 ↔ i = 0 := by
  constructor
  · intro h
    have := bi_i i
    rw [h] at this
    rw [← this]
    rfl
  · intro h
    subst h
    decide +kernel
theorem bi_k : ∀ k, k < 64 → (4294967296 ||| (nI k).toInt64).toInt32 = nI k ∧ ¬ ((4294967296 ||| (nI k).toInt64) &&& 4294967296 = 0) ∧ ¬ (4294967296 ||| (nI k).toInt64 = 0) := by decide +kernel
end
section
/-! ===== the term as both sides keep it ===== -/
/-- cs the limit of cells, n nodes, h holes, L lambdas; K kinds, P parents, N nests, Lv levels, S scopes, O operands of VARs, B their binders' lambdas -/
def re_A (cs n h L : Nat) (K P N Lv S O B : Nat → Nat) : Prop :=
  tr_Ok K P n ∧ tr_H K n h ∧ n + h ≤ cs ∧ cs ≤ 48 ∧ L = tr_lc K n ∧ L ≤ 16 ∧ tr_N K P N n ∧ tr_S K P (fun m l => (S m).testBit l) n ∧ tr_V K P Lv n ∧
  (∀ m, m < n → K m ≤ 6 ∧ N m ≤ 5 ∧ (K m = 2 → N m ≤ 4) ∧ (3 ≤ K m → Lv m ≤ 4) ∧ S m < 65536) ∧
  (∀ m, m < n → K m = 0 → O m < N m ∧ ∃ b, b < m ∧ K b = 2 ∧ (S m).testBit (tr_lc K b) = true ∧ B m = tr_lc K b ∧ N b + O m + 1 = N m)
/-- what a node under p gets -/
def re_nu (K N : Nat → Nat) (n p : Nat) : Nat := if n = 0 then 0 else if K p = 2 then N p + 1 else N p
def re_lu (K Lv : Nat → Nat) (n p : Nat) : Nat := if n = 0 then 0 else if K p = 2 then 0 else Lv p + 1
def re_su (K S : Nat → Nat) (n p : Nat) : Nat := if n = 0 then 0 else if K p = 2 then S p ||| 2 ^ tr_lc K p else S p
/-- p is the parent of the leftmost hole -/
def re_p (K P : Nat → Nat) (n p : Nat) : Prop := 0 < n → p < n ∧ tr_cnt P p n < tr_ar (K p) ∧ ∀ q, p < q → q < n → tr_ar (K q) ≤ tr_cnt P q n
theorem tr_ar_pos {k : Nat} (h : 0 < tr_ar k) : 2 ≤ k := by
  rcases Nat.lt_or_ge k 2 with q | q
  · rw [tr_ar_0 q] at h; omega
  · exact q
section
variable {cs n h L : Nat} {K P N Lv S O B : Nat → Nat}
theorem re_N_put (Nn : tr_N K P N n) (Ok : tr_Ok K P n) {k p : Nat} (hp : re_p K P n p) : tr_N (tr_put K n k) (tr_put P n p) (tr_put N n (re_nu K N n p)) (n + 1) := by
  intro m hm
  by_cases e : m = n
  · subst e
    rw [tr_put_s, tr_put_s]
    refine ⟨fun z => if_pos z, fun z => ?_⟩
    have a := (hp z).1
    rw [tr_put_n N _ (show p ≠ m by omega), tr_put_n K _ (show p ≠ m by omega)]
    unfold re_nu
    rw [if_neg (by omega)]
    by_cases k2 : K p = 2
    · rw [if_pos k2, if_pos k2]
    · rw [if_neg k2, if_neg k2, Nat.add_zero]
  · have hm' : m < n := by omega
    obtain ⟨a, b⟩ := Nn m hm'
    rw [tr_put_n N _ e, tr_put_n P _ e]
    refine ⟨a, fun z => ?_⟩
    have := (Ok m z hm').1
    rw [tr_put_n N _ (show P m ≠ n by omega), tr_put_n K _ (show P m ≠ n by omega)]
    exact b z
theorem re_V_put (V : tr_V K P Lv n) (Ok : tr_Ok K P n) (D : ∀ m, m < n → 3 ≤ K m → Lv m ≤ 4) {k p : Nat} (hp : re_p K P n p) : tr_V (tr_put K n k) (tr_put P n p) (tr_put Lv n (re_lu K Lv n p)) (n + 1) := by
  intro m hm
  by_cases e : m = n
  · subst e
    rw [tr_put_s, tr_put_s]
    refine ⟨?_, fun z => if_pos z, fun z => ?_⟩
    · unfold re_lu
      by_cases z : m = 0
      · rw [if_pos z]; omega
      · rw [if_neg z]
        by_cases k2 : K p = 2
        · rw [if_pos k2]; omega
        · rw [if_neg k2]
          obtain ⟨a, b, _⟩ := hp (by omega)
          have := tr_ar_pos (show 0 < tr_ar (K p) by omega)
          have := D p a (by omega)
          omega
    · have a := (hp z).1
      rw [tr_put_n Lv _ (show p ≠ m by omega), tr_put_n K _ (show p ≠ m by omega)]
      unfold re_lu
      rw [if_neg (by omega)]
  · have hm' : m < n := by omega
    obtain ⟨a, b, c⟩ := V m hm'
    rw [tr_put_n Lv _ e, tr_put_n P _ e]
    refine ⟨a, b, fun z => ?_⟩
    have := (Ok m z hm').1
    rw [tr_put_n Lv _ (show P m ≠ n by omega), tr_put_n K _ (show P m ≠ n by omega)]
    exact c z
theorem re_S_put (Sn : tr_S K P (fun m l => (S m).testBit l) n) (Ok : tr_Ok K P n) {k p : Nat} (hp : re_p K P n p) : tr_S (tr_put K n k) (tr_put P n p) (fun m l => (tr_put S n (re_su K S n p) m).testBit l) (n + 1) := by
  intro m hm
  by_cases e : m = n
  · subst e
    refine ⟨fun z l => ?_, fun z l => ?_⟩
    · show (tr_put S m (re_su K S m p) m).testBit l = false
      rw [tr_put_s]
      unfold re_su
      rw [if_pos z, Nat.zero_testBit]
    · have a := (hp z).1
      show (tr_put S m (re_su K S m p) m).testBit l = ((tr_put S m (re_su K S m p) (tr_put P m p m)).testBit l || (decide (tr_put K m k (tr_put P m p m) = 2) && decide (l = tr_lc (tr_put K m k) (tr_put P m p m))))
      rw [tr_put_s, tr_put_s, tr_put_n S _ (show p ≠ m by omega), tr_put_n K _ (show p ≠ m by omega), tr_lc_put K m k p (by omega)]
      unfold re_su
      rw [if_neg (by omega)]
      by_cases k2 : K p = 2
      · rw [if_pos k2, Nat.testBit_or, Nat.testBit_two_pow, decide_eq_true k2, Bool.true_and]
        congr 1
        exact decide_eq_decide.mpr ⟨fun x => x.symm, fun x => x.symm⟩
      · rw [if_neg k2, decide_eq_false k2, Bool.false_and, Bool.or_false]
  · have hm' : m < n := by omega
    obtain ⟨a, b⟩ := Sn m hm'
    refine ⟨fun z l => ?_, fun z l => ?_⟩
    · show (tr_put S n (re_su K S n p) m).testBit l = false
      rw [tr_put_n S _ e]
      exact a z l
    · have hq := (Ok m z hm').1
      show (tr_put S n (re_su K S n p) m).testBit l = ((tr_put S n (re_su K S n p) (tr_put P n p m)).testBit l || (decide (tr_put K n k (tr_put P n p m) = 2) && decide (l = tr_lc (tr_put K n k) (tr_put P n p m))))
      rw [tr_put_n S _ e, tr_put_n P _ e, tr_put_n S _ (show P m ≠ n by omega), tr_put_n K _ (show P m ≠ n by omega), tr_lc_put K n k (P m) (by omega)]
      exact b z l
/-- the lambdas of the scope under p: each is that of a LAM whose nest is the number of lambdas below it; there are as many as the nest says -/
theorem re_rank (A : re_A cs n h L K P N Lv S O B) {p : Nat} (hp : re_p K P n p) : (∀ l, (re_su K S n p).testBit l = true → ∃ b, b < n ∧ K b = 2 ∧ tr_lc K b = l ∧ tr_bc (fun j => (re_su K S n p).testBit j) l = N b) ∧ (∀ j, L ≤ j → tr_bc (fun j => (re_su K S n p).testBit j) j = re_nu K N n p) := by
  obtain ⟨Ok, _, _, _, hL, _, Nn, Sn, _, _, _⟩ := A
  have Ok' := tr_Ok_put (k := 1) Ok hp
  have N' := re_N_put (k := 1) Nn Ok hp
  have S' := re_S_put (k := 1) Sn Ok hp
  refine ⟨fun l hl => ?_, fun j hj => ?_⟩
  · obtain ⟨b, b1, b2, b3, b4, _⟩ := tr_sc_rank Ok' N' S' n (by omega) l (by
      show (tr_put S n (re_su K S n p) n).testBit l = true
      rw [tr_put_s]; exact hl)
    rw [tr_put_n K _ (show b ≠ n by omega)] at b2
    rw [tr_lc_put K n 1 b (by omega)] at b3
    rw [tr_put_n N _ (show b ≠ n by omega)] at b4
    refine ⟨b, b1, b2, b3, ?_⟩
    rw [← b4]
    refine tr_bc_c _ (fun i _ => ?_)
    show _ = (tr_put S n (re_su K S n p) n).testBit i
    rw [tr_put_s]
  · have := tr_sc_N Ok' N' S' n (by omega) j (by rw [tr_lc_put K n 1 n (Nat.le_refl n), ← hL]; exact hj)
    have e : tr_put N n (re_nu K N n p) n = re_nu K N n p := tr_put_s _ _ _
    rw [e] at this
    rw [← this]
    refine tr_bc_c _ (fun i _ => ?_)
    show _ = (tr_put S n (re_su K S n p) n).testBit i
    rw [tr_put_s]
theorem re_nu_5 (A : re_A cs n h L K P N Lv S O B) {p : Nat} (hp : re_p K P n p) : re_nu K N n p ≤ 5 ∧ re_lu K Lv n p ≤ 5 ∧ re_su K S n p < 65536 := by
  obtain ⟨Ok, _, _, _, hL, hL16, Nn, Sn, V, D, _⟩ := A
  unfold re_nu re_lu re_su
  by_cases z : n = 0
  · rw [if_pos z, if_pos z, if_pos z]; omega
  · rw [if_neg z, if_neg z, if_neg z]
    obtain ⟨a, b, _⟩ := hp (by omega)
    obtain ⟨d1, d2, d3, d4, d5⟩ := D p a
    by_cases k2 : K p = 2
    · rw [if_pos k2, if_pos k2, if_pos k2]
      have h1 := d3 k2
      have h2 := tr_lc_lt a k2
      have h3 : 2 ^ tr_lc K p < 2 ^ 16 := Nat.pow_lt_pow_right (by decide) (by omega)
      have h4 : S p ||| 2 ^ tr_lc K p < 2 ^ 16 := Nat.or_lt_two_pow d5 h3
      exact ⟨by omega, by omega, h4⟩
    · rw [if_neg k2, if_neg k2, if_neg k2]
      have := tr_ar_pos (show 0 < tr_ar (K p) by omega)
      have := d4 (by omega)
      exact ⟨d2, by omega, d5⟩
theorem re_put (A : re_A cs n h L K P N Lv S O B) {k p o l : Nat} (hh : 0 < h) (hk : k ≤ 6) (hc : n + h + tr_ar k ≤ cs) (hp : re_p K P n p)
    (hv : k = 0 → o < re_nu K N n p ∧ ∃ b, b < n ∧ K b = 2 ∧ (re_su K S n p).testBit (tr_lc K b) = true ∧ l = tr_lc K b ∧ N b + o + 1 = re_nu K N n p)
    (h2 : k = 2 → re_nu K N n p ≤ 4 ∧ L < 16) (h3 : 3 ≤ k → re_lu K Lv n p ≤ 4) :
    re_A cs (n + 1) (h + tr_ar k - 1) (if k = 2 then L + 1 else L) (tr_put K n k) (tr_put P n p) (tr_put N n (re_nu K N n p)) (tr_put Lv n (re_lu K Lv n p)) (tr_put S n (re_su K S n p)) (tr_put O n o) (tr_put B n l) := by
  obtain ⟨u1, u2, u3⟩ := re_nu_5 A hp
  obtain ⟨Ok, H, hb, hcs, hL, hL16, Nn, Sn, V, D, Vr⟩ := A
  have eL : (if k = 2 then L + 1 else L) = tr_lc (tr_put K n k) (n + 1) := by
    show _ = tr_lc (tr_put K n k) n + (if tr_put K n k n = 2 then 1 else 0)
    rw [tr_put_s, tr_lc_put K n k n (Nat.le_refl n), ← hL]
    by_cases z : k = 2
    · rw [if_pos z, if_pos z]
    · rw [if_neg z, if_neg z, Nat.add_zero]
  refine ⟨tr_Ok_put Ok hp, tr_H_put H hh, by omega, hcs, eL, ?_, re_N_put Nn Ok hp, re_S_put Sn Ok hp, re_V_put V Ok (fun m hm k3 => (D m hm).2.2.2.1 k3) hp, fun m hm => ?_, fun m hm km => ?_⟩
  · by_cases z : k = 2
    · rw [if_pos z]; have := (h2 z).2; omega
    · rw [if_neg z]; exact hL16
  · by_cases e : m = n
    · subst e
      rw [tr_put_s, tr_put_s, tr_put_s, tr_put_s]
      exact ⟨hk, u1, fun z => (h2 z).1, h3, u3⟩
    · rw [tr_put_n K _ e, tr_put_n N _ e, tr_put_n Lv _ e, tr_put_n S _ e]
      exact D m (by omega)
  · by_cases e : m = n
    · subst e
      rw [tr_put_s] at km
      obtain ⟨a1, b, b1, b2, b3, b4, b5⟩ := hv km
      rw [tr_put_s, tr_put_s, tr_put_s, tr_put_s]
      refine ⟨a1, b, b1, ?_, ?_, ?_, ?_⟩
      · rw [tr_put_n K _ (show b ≠ m by omega)]; exact b2
      · rw [tr_lc_put K m k b (by omega)]; exact b3
      · rw [tr_lc_put K m k b (by omega)]; exact b4
      · rw [tr_put_n N _ (show b ≠ m by omega)]; exact b5
    · rw [tr_put_n K _ e] at km
      obtain ⟨a1, b, b1, b2, b3, b4, b5⟩ := Vr m (by omega) km
      rw [tr_put_n N _ e, tr_put_n O _ e, tr_put_n S _ e, tr_put_n B _ e]
      refine ⟨a1, b, b1, ?_, ?_, ?_, ?_⟩
      · rw [tr_put_n K _ (show b ≠ n by omega)]; exact b2
      · rw [tr_lc_put K n k b (by omega)]; exact b3
      · rw [tr_lc_put K n k b (by omega)]; exact b4
      · rw [tr_put_n N _ (show b ≠ n by omega)]; exact b5
end
theorem re_A_0 {cs : Nat} (h1 : 1 ≤ cs) (h2 : cs ≤ 48) (K P N Lv S O B : Nat → Nat) : re_A cs 0 1 0 K P N Lv S O B :=
  ⟨fun m _ z => absurd z (Nat.not_lt_zero m), rfl, h1, h2, rfl, Nat.zero_le _, fun m z => absurd z (Nat.not_lt_zero m), fun m z => absurd z (Nat.not_lt_zero m), fun m z => absurd z (Nat.not_lt_zero m), fun m z => absurd z (Nat.not_lt_zero m), fun m z => absurd z (Nat.not_lt_zero m)⟩
/-! what a complete term gives -/
def re_ix (N O : Nat → Nat) : Nat → Nat := fun m => N m - 1 - O m
section
variable {cs n L : Nat} {K P N Lv S O B bd : Nat → Nat}
theorem re_full (A : re_A cs n 0 L K P N Lv S O B) : 0 < n ∧ tr_Full K P n := by
  have H : 0 + n = 1 + tr_sum (fun i => tr_ar (K i)) n := A.2.1
  exact ⟨by omega, tr_full_of A.1 A.2.1⟩
theorem re_ev_T (A : re_A cs n 0 L K P N Lv S O B) : ev_T K (tr_e P n) N (re_ix N O) n := by
  obtain ⟨hn, F⟩ := re_full A
  obtain ⟨Ok, H, hb, hcs, hL, hL16, Nn, Sn, V, D, Vr⟩ := A
  refine ⟨tr_T_of Ok F, tr_C_of Ok F Nn, by omega, fun m hm => (D m hm).1, fun m hm k => ?_⟩
  have := (Vr m hm k).1
  show N m - 1 - O m < N m
  omega
theorem re_tr_L (A : re_A cs n 0 L K P N Lv S O B) : tr_L K (tr_e P n) Lv n := by
  obtain ⟨hn, F⟩ := re_full A
  exact tr_L_of A.1 F A.2.2.2.2.2.2.2.2.1
theorem re_so_B (A : re_A cs n 0 L K P N Lv S O B) (hbd : ∀ m, m < n → K m = 2 → bd (tr_lc K m) = m + 1) : so_B K (tr_e P n) N (re_ix N O) B (tr_lc K) bd (fun m l => (S m).testBit l) n L := by
  obtain ⟨hn, F⟩ := re_full A
  obtain ⟨Ok, H, hb, hcs, hL, hL16, Nn, Sn, V, D, Vr⟩ := A
  refine so_B_of Ok F Nn Sn hL hbd (fun m hm k => ?_)
  obtain ⟨a1, b, b1, b2, b3, b4, b5⟩ := Vr m hm k
  refine ⟨b, by omega, b2, b3, b4, ?_⟩
  show N m - 1 - O m = N b
  omega
theorem re_so_T (A : re_A cs n 0 L K P N Lv S O B) (hbd : ∀ m, m < n → K m = 2 → bd (tr_lc K m) = m + 1) : so_T K (tr_e P n) B (tr_lc K) bd L n := by
  obtain ⟨hn, F⟩ := re_full A
  obtain ⟨Ok, H, hb, hcs, hL, hL16, Nn, Sn, V, D, Vr⟩ := A
  have T := tr_T_of Ok F
  refine ⟨T, by omega, hL16, fun m hm => (D m hm).1, fun m hm k => ?_, fun m hm k => ?_, fun l hl => ?_⟩
  · obtain ⟨a1, b, b1, b2, b3, b4, b5⟩ := Vr m hm k
    rw [b4, hL]
    exact tr_lc_lt (by omega) b2
  · rw [hL]; exact tr_lc_lt hm k
  · rw [hL] at hl
    obtain ⟨m, m1, m2, m3⟩ := tr_lc_find n hl
    rw [← m3, hbd m m1 m2]
    exact (tr_k2 T m1 m2).1
end
end
section
/-! ===== the l-th LAM ===== -/
def tr_ln (K : Nat → Nat) : Nat → Nat → Nat
  | 0, _ => 0
  | n + 1, l => if K n = 2 ∧ tr_lc K n = l then n else tr_ln K n l
theorem tr_ln_is {K : Nat → Nat} {m : Nat} (k : K m = 2) : ∀ n, m < n → tr_ln K n (tr_lc K m) = m := by
  intro n
  induction n with
  | zero => intro h; exact absurd h (Nat.not_lt_zero m)
  | succ n ih =>
    intro h
    show (if K n = 2 ∧ tr_lc K n = tr_lc K m then n else tr_ln K n (tr_lc K m)) = m
    by_cases z : K n = 2 ∧ tr_lc K n = tr_lc K m
    · rw [if_pos z]; exact tr_lc_inj z.1 k z.2
    · rw [if_neg z]
      refine ih ?_
      rcases Nat.lt_or_ge m n with q | q
      · exact q
      · have : m = n := by omega
        subst this
        exact absurd ⟨k, rfl⟩ z
theorem tr_ln_of {K : Nat → Nat} {n l : Nat} (h : l < tr_lc K n) : tr_ln K n l < n ∧ K (tr_ln K n l) = 2 ∧ tr_lc K (tr_ln K n l) = l := by
  obtain ⟨m, a, b, c⟩ := tr_lc_find n h
  have e := tr_ln_is b n a
  rw [c] at e
  rw [e]
  exact ⟨a, b, c⟩
def re_bd (K : Nat → Nat) (n : Nat) : Nat → Nat := fun l => tr_ln K n l + 1
theorem re_bd_is {K : Nat → Nat} {n : Nat} : ∀ m, m < n → K m = 2 → re_bd K n (tr_lc K m) = m + 1 := fun m hm k => by
  unfold re_bd
  rw [tr_ln_is k n hm]
/-! ===== the arrays of the class ===== -/
def re_C (n : Nat) (P : Nat → Nat) (ch : Nat → Int32) : Prop := ∀ p, p < n → ∀ k, k < 3 → (∀ c, 0 < c → c < n → P c = p → tr_cnt P p c = k → ch (p * 3 + k) = nI c) ∧ (tr_cnt P p n ≤ k → ch (p * 3 + k) = -1)
theorem re_C_put {K P : Nat → Nat} {n p : Nat} {ch ch' : Nat → Int32} (Ok : tr_Ok K P n) (hp : re_p K P n p) (C : re_C n P ch) (h1 : ∀ k, k < 3 → ch' (n * 3 + k) = -1) (h2 : 0 < n → ch' (p * 3 + tr_cnt P p n) = nI n) (h3 : ∀ j, j < n * 3 → (0 < n → j ≠ p * 3 + tr_cnt P p n) → ch' j = ch j) (h4 : 0 < n → tr_cnt P p n < 3) : re_C (n + 1) (tr_put P n p) ch' := by
  intro q hq k hk
  by_cases e : q = n
  · subst e
    refine ⟨fun c c0 c1 c2 _ => ?_, fun _ => h1 k hk⟩
    by_cases z : c = q
    · subst z
      rw [tr_put_s] at c2
      have := (hp c0).1
      omega
    · rw [tr_put_n P _ z] at c2
      have := (Ok c c0 (by omega)).1
      omega
  · have hq' : q < n := by omega
    obtain ⟨a, b⟩ := C q hq' k hk
    have h4' := h4 (by omega)
    refine ⟨fun c c0 c1 c2 c3 => ?_, fun z => ?_⟩
    · rw [tr_cnt_put P n p q c (by omega)] at c3
      by_cases z : c = n
      · subst z
        rw [tr_put_s] at c2
        subst c2
        rw [← c3]
        exact h2 (by omega)
      · rw [tr_put_n P _ z] at c2
        rw [h3 (q * 3 + k) (by omega) (fun _ w => ?_)]
        · exact a c c0 (by omega) c2 c3
        · have e1 : q = p := by omega
          have e2 : k = tr_cnt P p n := by omega
          have e3 := tr_cnt_s c0 c2
          have e4 := tr_cnt_le (P := P) (p := q) (show c + 1 ≤ n by omega)
          rw [e1] at e3 e4 c3
          omega
    · have z' : tr_cnt (tr_put P n p) q n + (if 0 < n ∧ tr_put P n p n = q then 1 else 0) ≤ k := z
      rw [tr_cnt_put P n p q n (Nat.le_refl n), tr_put_s] at z'
      rw [h3 (q * 3 + k) (by omega) (fun _ w => ?_)]
      · refine b ?_
        exact Nat.le_trans (Nat.le_add_right _ _) z'
      · have e1 : q = p := by omega
        have e2 : k = tr_cnt P p n := by omega
        rw [if_pos ⟨by omega, e1.symm⟩, e1] at z'
        omega
/-- the arrays of the class that tell the term -/
def re_X (n : Nat) (K P N Lv S O B : Nat → Nat) (kd od pa pl ch le ne sc nl ln : Nat → Int32) : Prop :=
  (∀ m, m < n → kd m = nI (K m)) ∧ (∀ m, m < n → K m = 0 → od m = nI (O m)) ∧ (0 < n → pa 0 = -1) ∧ (∀ m, 0 < m → m < n → pa m = nI (P m)) ∧
  (∀ m, 0 < m → m < n → pl m = nI (tr_cnt P (P m) m)) ∧ re_C n P ch ∧
  (∀ m, m < n → le m = nI (Lv m) ∧ ne m = nI (N m) ∧ sc m = nI (S m)) ∧
  (∀ m, m < n → (K m = 0 → nl m = nI (B m)) ∧ (K m = 2 → nl m = nI (tr_lc K m)) ∧ (K m ≠ 0 → K m ≠ 2 → nl m = -1)) ∧
  (∀ m, m < n → K m = 2 → ln (tr_lc K m) = nI m)
theorem re_us {f : Nat → Int32} {k : Nat} {x : Int32} : upd f k x k = x := if_pos rfl
theorem re_un {f : Nat → Int32} {k j : Nat} {x : Int32} (h : j ≠ k) : upd f k x j = f j := if_neg h
theorem re_X_put {n k p o l nu lu su : Nat} {K P N Lv S O B : Nat → Nat} {kd od pa pl ch le ne sc nl ln ch' ln' : Nat → Int32} {od1 pa1 pl1 nl1 : Int32} (Ok : tr_Ok K P n) (hp : re_p K P n p) (X : re_X n K P N Lv S O B kd od pa pl ch le ne sc nl ln)
    (C : re_C (n + 1) (tr_put P n p) ch') (e1 : k = 0 → od1 = nI o) (e2 : n = 0 → pa1 = -1) (e3 : 0 < n → pa1 = nI p) (e4 : 0 < n → pl1 = nI (tr_cnt P p n)) (e5 : k = 0 → nl1 = nI l) (e6 : k = 2 → nl1 = nI (tr_lc K n)) (e7 : k ≠ 0 → k ≠ 2 → nl1 = -1)
    (e8 : k = 2 → ln' = upd ln (tr_lc K n) (nI n)) (e9 : k ≠ 2 → ln' = ln) :
    re_X (n + 1) (tr_put K n k) (tr_put P n p) (tr_put N n nu) (tr_put Lv n lu) (tr_put S n su) (tr_put O n o) (tr_put B n l) (upd kd n (nI k)) (upd od n od1) (upd pa n pa1) (upd pl n pl1) ch' (upd le n (nI lu)) (upd ne n (nI nu)) (upd sc n (nI su)) (upd nl n nl1) ln' := by
  obtain ⟨x1, x2, x3, x4, x5, x6, x7, x8, x9⟩ := X
  refine ⟨fun m hm => ?_, fun m hm km => ?_, fun _ => ?_, fun m h0 hm => ?_, fun m h0 hm => ?_, C, fun m hm => ?_, fun m hm => ?_, fun m hm km => ?_⟩
  · by_cases e : m = n
    · subst e; rw [re_us, tr_put_s]
    · rw [re_un e, tr_put_n K _ e]; exact x1 m (by omega)
  · by_cases e : m = n
    · subst e
      rw [tr_put_s] at km
      rw [re_us, tr_put_s]; exact e1 km
    · rw [tr_put_n K _ e] at km
      rw [re_un e, tr_put_n O _ e]; exact x2 m (by omega) km
  · by_cases e : 0 = n
    · subst e; rw [re_us]; exact e2 rfl
    · rw [re_un e]; exact x3 (by omega)
  · by_cases e : m = n
    · subst e; rw [re_us, tr_put_s]; exact e3 h0
    · rw [re_un e, tr_put_n P _ e]; exact x4 m h0 (by omega)
  · by_cases e : m = n
    · subst e
      rw [re_us, tr_put_s, tr_cnt_put P m p p m (Nat.le_refl m)]; exact e4 h0
    · rw [re_un e, tr_put_n P _ e, tr_cnt_put P n p _ m (by omega)]; exact x5 m h0 (by omega)
  · by_cases e : m = n
    · subst e
      rw [re_us, re_us, re_us, tr_put_s, tr_put_s, tr_put_s]
      exact ⟨rfl, rfl, rfl⟩
    · rw [re_un e, re_un e, re_un e, tr_put_n Lv _ e, tr_put_n N _ e, tr_put_n S _ e]
      exact x7 m (by omega)
  · by_cases e : m = n
    · subst e
      rw [tr_put_s, re_us, tr_put_s, tr_lc_put K m k m (Nat.le_refl m)]
      exact ⟨e5, e6, e7⟩
    · rw [tr_put_n K _ e, re_un e, tr_put_n B _ e, tr_lc_put K n k m (by omega)]
      exact x8 m (by omega)
  · by_cases e : m = n
    · subst e
      rw [tr_put_s] at km
      rw [tr_lc_put K m k m (Nat.le_refl m), e8 km, re_us]
    · rw [tr_put_n K _ e] at km
      rw [tr_lc_put K n k m (by omega)]
      by_cases z : k = 2
      · have := tr_lc_lt (K := K) (show m < n by omega) km
        rw [e8 z, re_un (by omega)]
        exact x9 m (by omega) km
      · rw [e9 z]; exact x9 m (by omega) km
/-! the children of a complete term -/
section
variable {cs n L : Nat} {K P N Lv S O B : Nat → Nat} {kd od pa pl ch le ne sc nl ln : Nat → Int32}
theorem re_kid0 (A : re_A cs n 0 L K P N Lv S O B) (X : re_X n K P N Lv S O B kd od pa pl ch le ne sc nl ln) {m : Nat} (hm : m < n) (k : 2 ≤ K m) : m + 1 < n ∧ ch (m * 3 + 0) = nI (m + 1) ∧ pa (m + 1) = nI m ∧ pl (m + 1) = nI 0 := by
  obtain ⟨hn, F⟩ := re_full A
  have ha : 0 < tr_ar (K m) := by
    by_cases k2 : K m = 2
    · rw [tr_ar_1 k2]; omega
    · by_cases k6 : K m = 6
      · rw [tr_ar_3 k6]; omega
      · rw [tr_ar_2 (by omega) k6]; omega
  obtain ⟨a, b, c⟩ := tr_first A.1 F hm ha
  refine ⟨a, (X.2.2.2.2.2.1 m hm 0 (by omega)).1 _ (by omega) a b c, ?_, ?_⟩
  · rw [X.2.2.2.1 _ (by omega) a, b]
  · rw [X.2.2.2.2.1 _ (by omega) a, b, c]
theorem re_kid1 (A : re_A cs n 0 L K P N Lv S O B) (X : re_X n K P N Lv S O B kd od pa pl ch le ne sc nl ln) {m : Nat} (hm : m < n) (k : 3 ≤ K m) : tr_e P n (m + 1) < n ∧ ch (m * 3 + 1) = nI (tr_e P n (m + 1)) ∧ pa (tr_e P n (m + 1)) = nI m ∧ pl (tr_e P n (m + 1)) = nI 1 := by
  obtain ⟨hn, F⟩ := re_full A
  have ha : 2 ≤ tr_ar (K m) := by
    by_cases k6 : K m = 6
    · rw [tr_ar_3 k6]; omega
    · rw [tr_ar_2 k k6]; omega
  obtain ⟨a, b, c⟩ := tr_kid1 A.1 F hm ha
  have h0 : 0 < tr_e P n (m + 1) := by
    have := (tr_par2 A.1 F hm k).1
    omega
  refine ⟨a, (X.2.2.2.2.2.1 m hm 1 (by omega)).1 _ h0 a b c, ?_, ?_⟩
  · rw [X.2.2.2.1 _ h0 a, b]
  · rw [X.2.2.2.2.1 _ h0 a, b, c]
theorem re_kid2 (A : re_A cs n 0 L K P N Lv S O B) (X : re_X n K P N Lv S O B kd od pa pl ch le ne sc nl ln) {m : Nat} (hm : m < n) (k : K m = 6) : tr_e P n (tr_e P n (m + 1)) < n ∧ ch (m * 3 + 2) = nI (tr_e P n (tr_e P n (m + 1))) ∧ pa (tr_e P n (tr_e P n (m + 1))) = nI m ∧ pl (tr_e P n (tr_e P n (m + 1))) = nI 2 := by
  obtain ⟨hn, F⟩ := re_full A
  have ha : 3 ≤ tr_ar (K m) := by rw [tr_ar_3 k]; omega
  obtain ⟨a, b, c⟩ := tr_kid2 A.1 F hm ha
  have h0 : 0 < tr_e P n (tr_e P n (m + 1)) := by
    have := (tr_par3 A.1 F hm k).1
    omega
  refine ⟨a, (X.2.2.2.2.2.1 m hm 2 (by omega)).1 _ h0 a b c, ?_, ?_⟩
  · rw [X.2.2.2.1 _ h0 a, b]
  · rw [X.2.2.2.2.1 _ h0 a, b, c]
/-- setNumber leaves the term alone -/
theorem re_X_num (X : re_X n K P N Lv S O B kd od pa pl ch le ne sc nl ln) {m : Nat} {v : Int32} (k : K m = 1) : re_X n K P N Lv S O B kd (upd od m v) pa pl ch le ne sc nl ln := by
  obtain ⟨x1, x2, x3⟩ := X
  refine ⟨x1, fun j hj kj => ?_, x3⟩
  rw [re_un (fun z => by subst z; omega)]
  exact x2 j hj kj
end
theorem re_X_0 (K P N Lv S O B : Nat → Nat) (kd od pa pl ch le ne sc nl ln : Nat → Int32) : re_X 0 K P N Lv S O B kd od pa pl ch le ne sc nl ln :=
  ⟨fun m z => absurd z (Nat.not_lt_zero m), fun m z => absurd z (Nat.not_lt_zero m), fun z => absurd z (Nat.lt_irrefl 0), fun m _ z => absurd z (Nat.not_lt_zero m), fun m _ z => absurd z (Nat.not_lt_zero m), fun m z => absurd z (Nat.not_lt_zero m), fun m z => absurd z (Nat.not_lt_zero m), fun m z => absurd z (Nat.not_lt_zero m), fun m z => absurd z (Nat.not_lt_zero m)⟩
end
section
/-! ===== the arrays that hold a solution; the flag that tells whether a pass has grown ===== -/
def so_X (n L : Nat) (t : so_S) (lv fl pf : Nat → Int32) : Prop := (∀ i, i < n → lv i = nI (t.1 i) ∧ fl i = nI (t.2.1 i)) ∧ (∀ l, l < L → pf l = nI (t.2.2 l))
theorem so_lv_id {t : so_S} {i : Nat} (h : t.1 i = 1) : so_lv t i = t := by
  obtain ⟨a, b, c⟩ := t
  have e : tr_put a i 1 = a := funext fun j => by
    by_cases z : j = i
    · subst z; rw [tr_put_s]; exact h.symm
    · rw [tr_put_n a _ z]
  show (tr_put a i 1, b, c) = (a, b, c)
  rw [e]
theorem so_fl_id {t : so_S} {i m : Nat} (h : so_sub m (t.2.1 i)) : so_fl t i m = t := by
  obtain ⟨a, b, c⟩ := t
  have h' : m ||| b i = b i := h
  have e : tr_put b i (b i ||| m) = b := funext fun j => by
    by_cases z : j = i
    · subst z; rw [tr_put_s, Nat.or_comm, h']
    · rw [tr_put_n b _ z]
  show (a, tr_put b i (b i ||| m), c) = (a, b, c)
  rw [e]
theorem so_pa_id {t : so_S} {i m : Nat} (h : so_sub m (t.2.2 i)) : so_pa t i m = t := by
  obtain ⟨a, b, c⟩ := t
  have h' : m ||| c i = c i := h
  have e : tr_put c i (c i ||| m) = c := funext fun j => by
    by_cases z : j = i
    · subst z; rw [tr_put_s, Nat.or_comm, h']
    · rw [tr_put_n c _ z]
  show (a, b, tr_put c i (c i ||| m)) = (a, b, c)
  rw [e]
def so_gr (g : Int32) (t0 t : so_S) : Prop := so_le t0 t ∧ so_01 t ∧ ((g = 0 ∧ t = t0) ∨ (g = 1 ∧ t ≠ t0))
theorem so_gr_0 {t : so_S} (h : so_01 t) : so_gr 0 t t := ⟨so_le_r t, h, Or.inl ⟨rfl, rfl⟩⟩
theorem so_gr_up {g : Int32} {t0 t u : so_S} (h : so_gr g t0 t) (l : so_le t u) (o : so_01 u) (ne : u ≠ t) : so_gr 1 t0 u := by
  obtain ⟨h1, h2, h3⟩ := h
  refine ⟨so_le_t h1 l, o, Or.inr ⟨rfl, fun z => ?_⟩⟩
  subst z
  exact ne (so_le_a h1 l)
theorem so_gr_lv {g : Int32} {t0 t : so_S} {i : Nat} (h : so_gr g t0 t) : (t.1 i = 1 → so_gr g t0 (so_lv t i)) ∧ (t.1 i ≠ 1 → so_gr 1 t0 (so_lv t i)) :=
  ⟨fun z => by rw [so_lv_id z]; exact h, fun z => so_gr_up h (so_lv_le h.2.1 i) (so_lv_01 h.2.1 i) (fun e => z (so_lv_fix e))⟩
theorem so_gr_fl {g : Int32} {t0 t : so_S} {i m : Nat} (h : so_gr g t0 t) : (so_sub m (t.2.1 i) → so_gr g t0 (so_fl t i m)) ∧ (¬ so_sub m (t.2.1 i) → so_gr 1 t0 (so_fl t i m)) :=
  ⟨fun z => by rw [so_fl_id z]; exact h, fun z => so_gr_up h (so_fl_le t i m) (so_fl_01 h.2.1 i m) (fun e => z (so_fl_fix e))⟩
theorem so_gr_pa {g : Int32} {t0 t : so_S} {i m : Nat} (h : so_gr g t0 t) : (so_sub m (t.2.2 i) → so_gr g t0 (so_pa t i m)) ∧ (¬ so_sub m (t.2.2 i) → so_gr 1 t0 (so_pa t i m)) :=
  ⟨fun z => by rw [so_pa_id z]; exact h, fun z => so_gr_up h (so_pa_le t i m) (so_pa_01 h.2.1 i m) (fun e => z (so_pa_fix e))⟩
section
variable {n L : Nat} {t : so_S} {lv fl pf : Nat → Int32}
theorem so_X_lv (X : so_X n L t lv fl pf) (i : Nat) : so_X n L (so_lv t i) (upd lv i (nI 1)) fl pf := by
  refine ⟨fun j hj => ⟨?_, (X.1 j hj).2⟩, X.2⟩
  show upd lv i (nI 1) j = nI (tr_put t.1 i 1 j)
  by_cases z : j = i
  · subst z; rw [re_us, tr_put_s]
  · rw [re_un z, tr_put_n _ _ z]; exact (X.1 j hj).1
theorem so_X_fl (X : so_X n L t lv fl pf) (i m : Nat) {x : Int32} (e : x = nI (t.2.1 i ||| m)) : so_X n L (so_fl t i m) lv (upd fl i x) pf := by
  refine ⟨fun j hj => ⟨(X.1 j hj).1, ?_⟩, X.2⟩
  show upd fl i x j = nI (tr_put t.2.1 i (t.2.1 i ||| m) j)
  by_cases z : j = i
  · subst z; rw [re_us, tr_put_s]; exact e
  · rw [re_un z, tr_put_n _ _ z]; exact (X.1 j hj).2
theorem so_X_pa (X : so_X n L t lv fl pf) (i m : Nat) {x : Int32} (e : x = nI (t.2.2 i ||| m)) : so_X n L (so_pa t i m) lv fl (upd pf i x) := by
  refine ⟨X.1, fun j hj => ?_⟩
  show upd pf i x j = nI (tr_put t.2.2 i (t.2.2 i ||| m) j)
  by_cases z : j = i
  · subst z; rw [re_us, tr_put_s]; exact e
  · rw [re_un z, tr_put_n _ _ z]; exact X.2 j hj
end
/-- lambdas behind L add nothing -/
theorem so_lp_16 {n L c0 c1 m : Nat} {bd : Nat → Nat} {t : so_S} (R : so_R n L t) (hm : m < n) (hb : ∀ l, l < L → bd l < n) : ∀ d, L + d ≤ 16 → so_lp c0 c1 m bd t (L + d) = so_lp c0 c1 m bd t L := by
  intro d
  induction d with
  | zero => intro _; rfl
  | succ d ih =>
    intro h
    show so_st c0 c1 m bd (so_lp c0 c1 m bd t (L + d)) (L + d) = _
    rw [ih (by omega)]
    unfold so_st
    rw [if_neg (fun z => ?_)]
    have := (so_R_lp R hm hb L (Nat.le_refl L)).2.2.2.1 c0 (L + d) z
    omega
/-! the reference's sum -/
theorem tr_sum_ge {f : Nat → Nat} {i : Nat} : ∀ n, i < n → f i ≤ tr_sum f n := by
  intro n
  induction n with
  | zero => intro h; exact absurd h (Nat.not_lt_zero i)
  | succ n ih =>
    intro h
    show f i ≤ tr_sum f n + f n
    by_cases z : i = n
    · subst z; omega
    · have := ih (by omega); omega
theorem so_V_lt {n L : Nat} {t : so_S} (hn : n ≤ 48) (hL : L ≤ 16) (R : so_R n L t) : so_V n t < 10000000 := by
  have h1 := tr_sum_bd (f := fun i => t.2.1 i) (c := 131071) n (fun i _ => by
    have := so_ms_lt hL (R.2.2.2.1 i)
    show t.2.1 i ≤ 131071
    omega)
  have h2 := tr_sum_bd (f := fun l => t.2.2 l) (c := 131071) 16 (fun i _ => by
    have := so_ms_lt hL (R.2.2.2.2 i)
    show t.2.2 i ≤ 131071
    omega)
  have h3 := tr_sum_bd (f := fun i => t.1 i) (c := 1) n (fun i _ => R.1 i)
  unfold so_V
  omega
theorem so_V_pos {n : Nat} {t : so_S} (hn : 0 < n) (h : t.1 0 = 1) : 1 ≤ so_V n t := by
  have := tr_sum_ge (f := fun i => t.1 i) n hn
  unfold so_V
  have h' : 1 ≤ tr_sum (fun i => t.1 i) n := by rw [← h]; exact this
  omega
theorem so_it_0 {K e bl lc bd : Nat → Nat} {L n : Nat} (T : so_T K e bl lc bd L n) (hn : 0 < n) (q : Nat) : (so_it (so_G K e bl lc bd L n) so_t0 q).1 0 = 1 := by
  have h1 := (so_le_it T hn q 0).1
  have h2 := (so_R_it T hn q).1 0
  have h3 : so_t0.1 0 = 1 := rfl
  rw [h3] at h1
  exact Nat.le_antisymm h2 h1
end
section
/-! ===== up the ancestors ===== -/
/-- a is an ancestor of m; x LAMs are still to be passed; the LAM sought has nest t -/
def re_w (K N S : Nat → Nat) (n m a x t : Nat) : Prop := a < n ∧ a < m ∧ t + x + 1 = (if K a = 2 then N a + 1 else N a) ∧ (∀ l, (S a).testBit l = true → (S m).testBit l = true) ∧ (K a = 2 → (S m).testBit (tr_lc K a) = true)
section
variable {cs n h L : Nat} {K P N Lv S O B : Nat → Nat}
theorem re_w_0 (A : re_A cs n h L K P N Lv S O B) {m o : Nat} (hm : m < n) (ho : o < N m) : 0 < m ∧ re_w K N S n m (P m) o (N m - 1 - o) := by
  obtain ⟨Ok, H, hb, hcs, hL, hL16, Nn, Sn, V, D, Vr⟩ := A
  have h0 : 0 < m := by
    rcases Nat.eq_zero_or_pos m with z | z
    · have := (Nn m hm).1 z; omega
    · exact z
  have hp := (Ok m h0 hm).1
  have e1 := (Nn m hm).2 h0
  have e2 := (Sn m hm).2 h0
  refine ⟨h0, by omega, hp, ?_, fun l hl => ?_, fun k => ?_⟩
  · by_cases k : K (P m) = 2
    · rw [if_pos k] at e1 ⊢; omega
    · rw [if_neg k] at e1 ⊢; omega
  · have e := e2 l
    have e' : (S m).testBit l = ((S (P m)).testBit l || (decide (K (P m) = 2) && decide (l = tr_lc K (P m)))) := e
    rw [e', hl, Bool.true_or]
  · have e := e2 (tr_lc K (P m))
    have e' : (S m).testBit (tr_lc K (P m)) = ((S (P m)).testBit (tr_lc K (P m)) || (decide (K (P m) = 2) && decide (tr_lc K (P m) = tr_lc K (P m)))) := e
    rw [e', decide_eq_true k, decide_eq_true rfl, Bool.and_true, Bool.or_true]
/-- the LAM sought -/
theorem re_w_hit (A : re_A cs n h L K P N Lv S O B) {m a t : Nat} (w : re_w K N S n m a 0 t) (k : K a = 2) : N a = t ∧ (S m).testBit (tr_lc K a) = true := by
  obtain ⟨w1, w2, w3, w4, w5⟩ := w
  rw [if_pos k] at w3
  exact ⟨by omega, w5 k⟩
/-- one step up -/
theorem re_w_s (A : re_A cs n h L K P N Lv S O B) {m a x y t : Nat} (w : re_w K N S n m a x t) (k : (K a = 2 ∧ x = y + 1) ∨ (K a ≠ 2 ∧ x = y)) : 0 < a ∧ re_w K N S n m (P a) y t := by
  obtain ⟨w1, w2, w3, w4, w5⟩ := w
  have e : t + y + 1 = N a := by
    rcases k with ⟨k, z⟩ | ⟨k, z⟩
    · rw [if_pos k] at w3; omega
    · rw [if_neg k] at w3; omega
  obtain ⟨g1, g2⟩ := re_w_0 A (m := a) (o := y) w1 (by omega)
  obtain ⟨g3, g4, g5, g6, g7⟩ := g2
  exact ⟨g1, g3, by omega, by omega, fun l hl => w4 l (g6 l hl), fun k => w4 _ (g7 k)⟩
/-- the binder of a VAR -/
theorem re_bind (A : re_A cs n h L K P N Lv S O B) {m a : Nat} (hm : m < n) (km : K m = 0) (ka : K a = 2) (e : N a = N m - 1 - O m) (hs : (S m).testBit (tr_lc K a) = true) : tr_lc K a = B m ∧ a < m := by
  obtain ⟨Ok, H, hb, hcs, hL, hL16, Nn, Sn, V, D, Vr⟩ := A
  obtain ⟨a1, b, b1, b2, b3, b4, b5⟩ := Vr m hm km
  have := tr_sc_uniq Ok Nn Sn hm ka b2 hs b3 (by omega)
  subst this
  exact ⟨b4.symm, b1⟩
/-- whether the LAM z lies above a -/
theorem re_anc (A : re_A cs n h L K P N Lv S O B) {a z : Nat} (ha : a < n) (kz : K z = 2) : (S a).testBit (tr_lc K z) = true ↔ 0 < a ∧ (P a = z ∨ (S (P a)).testBit (tr_lc K z) = true) := by
  obtain ⟨Ok, H, hb, hcs, hL, hL16, Nn, Sn, V, D, Vr⟩ := A
  constructor
  · intro hz
    obtain ⟨g1, g2⟩ := tr_sc_up Sn ha hz
    refine ⟨g1, ?_⟩
    rcases g2 with g2 | ⟨g2, g3⟩
    · exact Or.inr g2
    · exact Or.inl (tr_lc_inj g2 kz g3.symm)
  · rintro ⟨g1, g2⟩
    have e' : (S a).testBit (tr_lc K z) = ((S (P a)).testBit (tr_lc K z) || (decide (K (P a) = 2) && decide (tr_lc K z = tr_lc K (P a)))) := (Sn a ha).2 g1 (tr_lc K z)
    rw [e']
    rcases g2 with g2 | g2
    · subst g2
      rw [decide_eq_true kz, decide_eq_true rfl, Bool.and_true, Bool.or_true]
    · rw [g2, Bool.true_or]
theorem re_anc_lt (A : re_A cs n h L K P N Lv S O B) {a z : Nat} (ha : a < n) (kz : K z = 2) (hz : (S a).testBit (tr_lc K z) = true) : z < a := by
  obtain ⟨Ok, H, hb, hcs, hL, hL16, Nn, Sn, V, D, Vr⟩ := A
  exact (tr_sc_nest Ok Nn Sn ha kz hz).1
/-- of a VAR under z: its binder lies outside of z iff z's scope holds its lambda -/
theorem re_cap (A : re_A cs n h L K P N Lv S O B) {m z b : Nat} (hm : m < n) (kz : K z = 2) (kb : K b = 2) (hz : (S m).testBit (tr_lc K z) = true) (hb' : (S m).testBit (tr_lc K b) = true) : b < z ↔ (S z).testBit (tr_lc K b) = true := by
  have lt := re_anc_lt A hm kz hz
  obtain ⟨Ok, H, hb, hcs, hL, hL16, Nn, Sn, V, D, Vr⟩ := A
  constructor
  · intro g
    exact tr_sc_in (sc := fun m l => (S m).testBit l) Ok Nn Sn hm kb kz hb' hz g
  · intro g
    exact (tr_sc_nest Ok Nn Sn (show z < n by omega) kb g).1
end
/-! ===== the called masks of one engine ===== -/
def re_cs (E : Nat) (old c : Nat → Int32) : Nat → Int32 := fun j => if E * 48 ≤ j ∧ j < E * 48 + 48 then c (j - E * 48) else old j
theorem re_cs_at (E : Nat) (old c : Nat → Int32) {m : Nat} (h : m < 48) : re_cs E old c (E * 48 + m) = c m := by
  unfold re_cs
  rw [if_pos ⟨by omega, by omega⟩]
  congr 1
  omega
theorem re_cs_put (E : Nat) (old c : Nat → Int32) {m : Nat} (h : m < 48) (v : Int32) : upd (re_cs E old c) (E * 48 + m) v = re_cs E old (fun j => if j = m then v else c j) := by
  funext j
  unfold upd re_cs
  by_cases z : j = E * 48 + m
  · rw [if_pos z, if_pos ⟨by omega, by omega⟩]
    exact (if_pos (by omega)).symm
  · rw [if_neg z]
    by_cases y : E * 48 ≤ j ∧ j < E * 48 + 48
    · rw [if_pos y, if_pos y]
      exact (if_neg (by omega)).symm
    · rw [if_neg y, if_neg y]
end
section
/-! ===== how the class keeps a state of the machine ===== -/
theorem xr_us {f : Nat → Int64} {k : Nat} {x : Int64} : vp_updL f k x k = x := if_pos rfl
theorem xr_un {f : Nat → Int64} {k j : Nat} {x : Int64} (h : j ≠ k) : vp_updL f k x j = f j := if_neg h
/-- calls, closures, their lambdas, their values, the frame, returns, the frames' values, the waiting ones; nn tells the nest at a control c -/
def xr_P (lc N nn : Nat → Nat) (c : Nat) (a : am_S) (ca co : Int32) (cll : Nat → Int32) (clv : Nat → Int64) (fr : Int32) (ret : Nat → Int32) (fv : Nat → Int64) (wc : Int32) (wt : Nat → Int64) : Prop :=
  (ca = nI a.1.1 ∧ co = nI a.1.2.1 ∧ ∀ k, k < a.1.2.1 → cll k = nI (lc (a.1.2.2.1 k)) ∧ ∀ i, i < N (a.1.2.2.1 k) → clv (k * 5 + i) = bi_enc (a.1.2.2.2.1 k i)) ∧
  fr = nI a.2.1 ∧ (∀ j, 0 < j → j ≤ a.2.1 → ret j = nI (a.2.2.2.1 j)) ∧
  (∀ j, j < a.2.1 → ∀ i, i < nn (a.2.2.2.1 (j + 1)) → i < 5 → fv (j * 5 + i) = bi_enc (a.2.2.1 j i)) ∧
  (∀ i, i < nn c → i < 5 → fv (a.2.1 * 5 + i) = bi_enc (a.2.2.1 a.2.1 i)) ∧
  wc = nI a.2.2.2.2.1 ∧ (∀ j, j < a.2.2.2.2.1 → wt j = bi_enc (a.2.2.2.2.2 j))
section
variable {lc N nn : Nat → Nat} {bm : Nat → Int32} {c f w : Nat} {s : ev_S} {F : Nat → Nat → ev_V} {R : Nat → Nat} {W : Nat → ev_V} {ca co fr wc : Int32} {cll ret : Nat → Int32} {clv fv wt : Nat → Int64}
theorem xr_ctl {a : am_S} {c' : Nat} (h : xr_P lc N nn c a ca co cll clv fr ret fv wc wt) (e : nn c' = nn c) : xr_P lc N nn c' a ca co cll clv fr ret fv wc wt := by
  obtain ⟨h1, h2, h3, h4, h5, h6⟩ := h
  refine ⟨h1, h2, h3, h4, ?_, h6⟩
  rw [e]
  exact h5
theorem xr_push (h : xr_P lc N nn c (s, f, F, R, w, W) ca co cll clv fr ret fv wc wt) (v : ev_V) {wc' : Int32} (e : wc' = nI (w + 1)) : xr_P lc N nn c (s, f, F, R, w + 1, am_pw W w v) ca co cll clv fr ret fv wc' (vp_updL wt w (bi_enc v)) := by
  obtain ⟨h1, h2, h3, h4, h5, h6, h7⟩ := h
  refine ⟨h1, h2, h3, h4, h5, e, fun j hj => ?_⟩
  have hj' : j < w + 1 := hj
  show vp_updL wt w (bi_enc v) j = bi_enc (am_pw W w v j)
  by_cases z : j = w
  · subst z; rw [xr_us, am_pw_s]
  · rw [xr_un z, am_pw_n W v z]; exact h7 j (show j < w by omega)
theorem xr_pop {v : ev_V} (h : xr_P lc N nn c (s, f, F, R, w + 1, am_pw W w v) ca co cll clv fr ret fv wc wt) : wc = nI (w + 1) ∧ wt w = bi_enc v ∧ ∀ wc', wc' = nI w → xr_P lc N nn c (s, f, F, R, w, W) ca co cll clv fr ret fv wc' wt := by
  obtain ⟨h1, h2, h3, h4, h5, h6, h7⟩ := h
  refine ⟨h6, ?_, fun wc' e => ⟨h1, h2, h3, h4, h5, e, fun j hj => ?_⟩⟩
  · have := h7 w (Nat.lt_succ_self w)
    rw [this]
    show bi_enc (am_pw W w v w) = _
    rw [am_pw_s]
  · have hj' : j < w := hj
    have := h7 j (show j < w + 1 by omega)
    rw [this]
    show bi_enc (am_pw W w v j) = bi_enc (W j)
    rw [am_pw_n W v (show j ≠ w by omega)]
theorem xr_clo {m : Nat} {co' : Int32} {cll' : Nat → Int32} {clv' : Nat → Int64} (h : xr_P lc N nn c (s, f, F, R, w, W) ca co cll clv fr ret fv wc wt) (hn : nn c = N m) (hN : N m ≤ 5) (h5 : ∀ k, k < s.2.1 → N (s.2.2.1 k) ≤ 5) (e1 : co' = nI (s.2.1 + 1)) (e2 : cll' s.2.1 = nI (lc m)) (e3 : ∀ k, k < s.2.1 → cll' k = cll k) (e4 : ∀ i, i < N m → clv' (s.2.1 * 5 + i) = fv (f * 5 + i)) (e5 : ∀ j, j < s.2.1 * 5 → clv' j = clv j) : xr_P lc N nn c (ev_clo m (F f) s, f, F, R, w, W) ca co' cll' clv' fr ret fv wc wt := by
  obtain ⟨⟨h1, h1b, h1c⟩, h2, h3, h4, h5', h6⟩ := h
  refine ⟨⟨h1, e1, fun k hk => ?_⟩, h2, h3, h4, h5', h6⟩
  have hk' : k < s.2.1 + 1 := hk
  show cll' k = nI (lc (if k = s.2.1 then m else s.2.2.1 k)) ∧ ∀ i, i < N (if k = s.2.1 then m else s.2.2.1 k) → clv' (k * 5 + i) = bi_enc ((if k = s.2.1 then F f else s.2.2.2.1 k) i)
  by_cases z : k = s.2.1
  · subst z
    rw [if_pos rfl, if_pos rfl]
    refine ⟨e2, fun i hi => ?_⟩
    rw [e4 i hi]
    exact h5' i (by rw [hn]; exact hi) (by omega)
  · rw [if_neg z, if_neg z]
    have hk2 : k < s.2.1 := by omega
    obtain ⟨a, b⟩ := h1c k hk2
    have := h5 k hk2
    refine ⟨(e3 k hk2).trans a, fun i hi => ?_⟩
    rw [e5 (k * 5 + i) (by omega)]
    exact b i hi
theorem xr_call {m k z c' : Nat} {x : ev_V} {ca' fr' : Int32} {ret' : Nat → Int32} {fv' : Nat → Int64} (h : xr_P lc N nn c (s, f, F, R, w, W) ca co cll clv fr ret fv wc wt) (hk : k < s.2.1) (hN : N (s.2.2.1 k) ≤ 4) (hc : nn c' = N (s.2.2.1 k) + 1) (hz : nn z = nn c) (e1 : ca' = nI (s.1 + 1)) (e2 : fr' = nI (f + 1)) (e3 : ret' (f + 1) = nI z) (e4 : ∀ j, j ≤ f → ret' j = ret j) (e5 : ∀ i, i < N (s.2.2.1 k) → fv' ((f + 1) * 5 + i) = clv (k * 5 + i)) (e6 : fv' ((f + 1) * 5 + N (s.2.2.1 k)) = bi_enc x) (e7 : ∀ j, j < (f + 1) * 5 → fv' j = fv j) : xr_P lc N nn c' (ev_call bm m k s, f + 1, am_pf F (f + 1) (ev_env N k x s), tr_put R (f + 1) z, w, W) ca' co cll clv fr' ret' fv' wc wt := by
  obtain ⟨⟨h1, h1b, h1c⟩, h2, h3, h4, h5, h6⟩ := h
  refine ⟨⟨e1, h1b, h1c⟩, e2, fun j j0 j1 => ?_, fun j hj i hi h5i => ?_, fun i hi h5i => ?_, h6⟩
  · have j1' : j ≤ f + 1 := j1
    show ret' j = nI (tr_put R (f + 1) z j)
    by_cases y : j = f + 1
    · subst y; rw [tr_put_s]; exact e3
    · rw [tr_put_n R _ y, e4 j (by omega)]
      exact h3 j j0 (show j ≤ f by omega)
  · have hj' : j < f + 1 := hj
    have hi' : i < nn (tr_put R (f + 1) z (j + 1)) := hi
    show fv' (j * 5 + i) = bi_enc (am_pf F (f + 1) (ev_env N k x s) j i)
    rw [am_pf_n F _ (show j ≠ f + 1 by omega), e7 (j * 5 + i) (by omega)]
    by_cases y : j = f
    · subst y
      rw [tr_put_s, hz] at hi'
      exact h5 i hi' h5i
    · rw [tr_put_n R _ (show j + 1 ≠ f + 1 by omega)] at hi'
      exact h4 j (show j < f by omega) i hi' h5i
  · show fv' ((f + 1) * 5 + i) = bi_enc (am_pf F (f + 1) (ev_env N k x s) (f + 1) i)
    rw [am_pf_s]
    rw [hc] at hi
    show _ = bi_enc (if i = N (s.2.2.1 k) then x else s.2.2.2.1 k i)
    by_cases y : i = N (s.2.2.1 k)
    · rw [if_pos y, y]; exact e6
    · rw [if_neg y, e5 i (by omega)]
      have hi3 : i < N (s.2.2.1 k) := by omega
      exact (h1c k hk).2 i hi3
theorem xr_ret {g : Nat → ev_V} {z : Nat} (h : xr_P lc N nn c (s, f + 1, am_pf F (f + 1) g, tr_put R (f + 1) z, w, W) ca co cll clv fr ret fv wc wt) : fr = nI (f + 1) ∧ ret (f + 1) = nI z ∧ ∀ fr', fr' = nI f → xr_P lc N nn z (s, f, F, R, w, W) ca co cll clv fr' ret fv wc wt := by
  obtain ⟨h1, h2, h3, h4, h5, h6⟩ := h
  refine ⟨h2, ?_, fun fr' e => ⟨h1, e, fun j j0 j1 => ?_, fun j hj i hi h5i => ?_, fun i hi h5i => ?_, h6⟩⟩
  · have := h3 (f + 1) (Nat.succ_pos f) (Nat.le_refl _)
    rw [this]
    show nI (tr_put R (f + 1) z (f + 1)) = _
    rw [tr_put_s]
  · have j1' : j ≤ f := j1
    have := h3 j j0 (show j ≤ f + 1 by omega)
    rw [this]
    show nI (tr_put R (f + 1) z j) = nI (R j)
    rw [tr_put_n R _ (show j ≠ f + 1 by omega)]
  · have hj' : j < f := hj
    have hi' : i < nn (R (j + 1)) := hi
    have := h4 j (show j < f + 1 by omega) i (by
      show i < nn (tr_put R (f + 1) z (j + 1))
      rw [tr_put_n R _ (show j + 1 ≠ f + 1 by omega)]; exact hi') h5i
    rw [this]
    show bi_enc (am_pf F (f + 1) g j i) = bi_enc (F j i)
    rw [am_pf_n F _ (show j ≠ f + 1 by omega)]
  · have hi' : i < nn z := hi
    have := h4 f (Nat.lt_succ_self f) i (by
      show i < nn (tr_put R (f + 1) z (f + 1))
      rw [tr_put_s]; exact hi') h5i
    rw [this]
    show bi_enc (am_pf F (f + 1) g f i) = bi_enc (F f i)
    rw [am_pf_n F _ (show f ≠ f + 1 by omega)]
end
end
section
/-! ===== arrays that hold naturals ===== -/
def rn_F (g : Nat → Nat) : Nat → Int32 := fun j => nI (g j)
theorem rn_put (g : Nat → Nat) (k x : Nat) : upd (rn_F g) k (nI x) = rn_F (tr_put g k x) := by
  funext j
  show (if j = k then nI x else nI (g j)) = nI (if j = k then x else g j)
  by_cases z : j = k
  · rw [if_pos z, if_pos z]
  · rw [if_neg z, if_neg z]
theorem rn_0 : (fun _ => 0 : Nat → Int32) = rn_F (fun _ => 0) := rfl
/-- how the reference keeps the tables of a run -/
def yr_P (E : Nat) (old : Nat → Int32) (T : yw_S) (ca co : Int32) (dn fn vl et bi cs : Nat → Int32) : Prop :=
  ca = nI T.1 ∧ co = nI T.2.1 ∧ dn = rn_F (yw_dn T) ∧ fn = yw_fn T ∧ vl = yw_vl T ∧ et = rn_F (yw_et T) ∧ bi = rn_F (yw_bi T) ∧ cs = re_cs E old (yw_cs T)
section
variable {E : Nat} {old : Nat → Int32} {T : yw_S} {ca co : Int32} {dn fn vl et bi cs : Nat → Int32}
theorem yr_fin (h : yr_P E old T ca co dn fn vl et bi cs) (q : Nat) (x y : Int32) : yr_P E old (yw_fin q x y T) ca co (upd dn q (nI 1)) (upd fn q x) (upd vl q y) et bi cs := by
  obtain ⟨h1, h2, h3, h4, h5, h6, h7, h8⟩ := h
  subst h3 h4 h5
  exact ⟨h1, h2, rn_put _ _ _, rfl, rfl, h6, h7, h8⟩
theorem yr_inc (h : yr_P E old T ca co dn fn vl et bi cs) {co' : Int32} (e : co' = nI (T.2.1 + 1)) : yr_P E old (yw_inc T) ca co' dn fn vl et bi cs := by
  obtain ⟨h1, h2, h3, h4, h5, h6, h7, h8⟩ := h
  exact ⟨h1, e, h3, h4, h5, h6, h7, h8⟩
end
/-! ===== the start of a run ===== -/
def ev_s0 : ev_S := (0, 0, (fun _ => 0), (fun _ _ => .inl 0), (fun _ => 0))
def ev_e0' : Nat → ev_V := fun _ => .inl 0
theorem ev_pre0 {K e N : Nat → Nat} {n cl cm : Nat} (hn : 0 < n) (he : e 0 = n) (h48 : n ≤ 48) (hcl : cl ≤ 48) (hN : N 0 = 0) : ev_Pre K e N n cl cm 2400 ev_e0' 0 ev_s0 := by
  refine ⟨hn, ?_, ⟨Nat.zero_le _, Nat.zero_le _, fun k hk => absurd hk (Nat.not_lt_zero k)⟩, fun i hi => ?_⟩
  · show 48 * (cl - 0) + (e 0 - 0) ≤ 2400
    omega
  · rw [hN] at hi
    exact absurd hi (Nat.not_lt_zero i)
theorem so_sp0 {K N lc : Nat → Nat} {sc : Nat → Nat → Bool} {n : Nat} {t : so_S} (h0 : ∀ l, sc 0 l = false) (ht : t.1 0 = 1) : so_SP K N lc sc n t 0 ev_e0' ev_s0 := by
  refine ⟨fun k hk => absurd hk (Nat.not_lt_zero k), fun b hb kb z => ?_, ht⟩
  rw [h0] at z
  cases z
end
section
/-! ===== the pieces of code, one behind another ===== -/
/-- the code of node m stands at a, a return behind it, all before z -/
def cp_P (K e oc nd tg : Nat → Nat) (t : so_S) (z m a : Nat) : Prop := ∃ d x, la_c K e t.1 (cm_sk e t) oc nd tg d m a x ∧ x < z ∧ oc x = 9 ∧ nd x = m
/-- what holds of every cell -/
def cp_c (K N oc nd tg : Nat → Nat) (n z c : Nat) : Prop := nd c < n ∧ oc c ≤ 9 ∧ (oc c ≠ 9 → c + 1 < z ∧ N (nd (c + 1)) = N (nd c)) ∧ (oc c = 4 ∨ oc c = 5 → tg c < z ∧ N (nd (tg c)) = N (nd c)) ∧ (oc c = 6 → K (nd c) = 3)
/-- l lambdas are done -/
def cp_I (K e N oc nd tg en : Nat → Nat) (t : so_S) (n l z : Nat) : Prop :=
  cp_P K e oc nd tg t z 0 0 ∧ (∀ p, p < n → K p = 2 → tr_lc K p < l → t.1 (p + 1) = 1 → cp_P K e oc nd tg t z (p + 1) (en (tr_lc K p))) ∧ (∀ c, c < z → cp_c K N oc nd tg n z c)
section
variable {K e N oc nd tg en oc' nd' tg' : Nat → Nat} {t : so_S} {n l z z' : Nat}
theorem cp_P_up {m a : Nat} (h : cp_P K e oc nd tg t z m a) (g : em_ag z oc nd tg oc' nd' tg') (hz : z ≤ z') : cp_P K e oc' nd' tg' t z' m a := by
  obtain ⟨d, x, h1, h2, h3, h4⟩ := h
  obtain ⟨g1, g2, _⟩ := g x h2
  exact ⟨d, x, la_keep 0 z (fun j _ hj => ⟨(g j hj).1, (g j hj).2.1, fun _ => (g j hj).2.2⟩) d m a x (Nat.zero_le _) (by omega) h1, by omega, by rw [g1]; exact h3, by rw [g2]; exact h4⟩
theorem cp_c_up (h : ∀ c, c < z → cp_c K N oc nd tg n z c) (g : em_ag z oc nd tg oc' nd' tg') (hz : z ≤ z') : ∀ c, c < z → cp_c K N oc' nd' tg' n z' c := by
  intro c hc
  obtain ⟨h1, h2, h3, h4, h5⟩ := h c hc
  obtain ⟨g1, g2, g3⟩ := g c hc
  refine ⟨by rw [g2]; exact h1, by rw [g1]; exact h2, fun w => ?_, fun w => ?_, fun w => ?_⟩
  · rw [g1] at w
    obtain ⟨a, b⟩ := h3 w
    rw [g2, (g (c + 1) a).2.1]
    exact ⟨by omega, b⟩
  · rw [g1] at w
    obtain ⟨a, b⟩ := h4 w
    rw [g3, g2, (g _ a).2.1]
    exact ⟨by omega, b⟩
  · rw [g1] at w
    rw [g2]
    exact h5 w
/-- a piece and its return -/
theorem cp_new {d m a x : Nat} (T : tr_T K e n) (C : tr_C K e N n) (hK : ∀ m, m < n → K m ≤ 6) (hm : m < n) (h : la_c K e t.1 (cm_sk e t) oc nd tg d m a x) : cp_P K e (tr_put oc x 9) (tr_put nd x m) tg t (x + 1) m a ∧ ∀ c, a ≤ c → c < x + 1 → cp_c K N (tr_put oc x 9) (tr_put nd x m) tg n (x + 1) c := by
  have hl := la_lt _ _ _ _ h
  have h' : la_c K e t.1 (cm_sk e t) (tr_put oc x 9) (tr_put nd x m) tg d m a x := la_keep 0 x (fun j _ hj => ⟨tr_put_n _ _ (by omega), tr_put_n _ _ (by omega), fun _ => rfl⟩) d m a x (Nat.zero_le _) (Nat.le_refl _) h
  have hN := la_N T C cm_sk_in hK d m a x hm h
  have nn : ∀ c, a ≤ c → c < x + 1 → N (tr_put nd x m c) = N m := fun c h1 h2 => by
    by_cases e : c = x
    · subst e; rw [tr_put_s]
    · rw [tr_put_n _ _ e]; exact (hN c h1 (by omega)).2.1
  refine ⟨⟨d, x, h', by omega, tr_put_s _ _ _, tr_put_s _ _ _⟩, fun c h1 h2 => ?_⟩
  by_cases e : c = x
  · subst e
    unfold cp_c
    rw [tr_put_s, tr_put_s]
    exact ⟨hm, Nat.le_refl _, fun w => absurd rfl w, fun w => by omega, fun w => by omega⟩
  · have hc : c < x := by omega
    obtain ⟨r1, r2, r3, r4, r5⟩ := hN c h1 hc
    refine ⟨?_, ?_, fun _ => ⟨by omega, ?_⟩, fun w => ?_, fun w => ?_⟩
    · rw [tr_put_n _ _ e]; exact r1
    · rw [tr_put_n _ _ e]; omega
    · rw [nn c h1 h2, nn (c + 1) (by omega) (by omega)]
    · rw [tr_put_n _ _ e] at w
      have := r4 w
      exact ⟨by omega, by rw [nn c h1 h2, nn (tg c) (by omega) (by omega)]⟩
    · rw [tr_put_n _ _ e] at w ⊢
      exact r5 w
/-- the links of known calls change nothing but targets of known calls -/
theorem cp_link (I : cp_I K e N oc nd tg en t n l z) (h : ∀ j, j < z → oc j ≠ 6 → tg' j = tg j) : cp_I K e N oc nd tg' en t n l z := by
  have kp : ∀ m a, cp_P K e oc nd tg t z m a → cp_P K e oc nd tg' t z m a := fun m a ⟨d, x, h1, h2, h3, h4⟩ =>
    ⟨d, x, la_keep 0 z (fun j _ hj => ⟨rfl, rfl, fun w => h j hj w⟩) d m a x (Nat.zero_le _) (by omega) h1, h2, h3, h4⟩
  refine ⟨kp _ _ I.1, fun p hp k hl ht => kp _ _ (I.2.1 p hp k hl ht), fun c hc => ?_⟩
  obtain ⟨h1, h2, h3, h4, h5⟩ := I.2.2 c hc
  refine ⟨h1, h2, h3, fun w => ?_, h5⟩
  rw [h c hc (by omega)]
  exact h4 w
theorem cp_G {L : Nat} (I : cp_I K e N oc nd tg en t n L z) (hL : ∀ p, p < n → K p = 2 → tr_lc K p < L) (hk : ∀ x, x < z → oc x = 6 → ∀ l, l < L → t.2.1 (nd x + 1) = 2 ^ l → tg x = en l) {bd : Nat → Nat} : cm_G K e (tr_lc K) bd oc nd tg en L n z t := by
  refine ⟨fun p hp k ht => ?_, hk⟩
  obtain ⟨d, x, h1, h2, h3, _⟩ := I.2.1 p hp k (hL p hp k) ht
  exact ⟨d, x, h1, h2, h3⟩
end
end
section
/-! ===== the class: reading the term ===== -/
theorem xb_ix (p k : Nat) : nI p * 3 + nI k = nI (p * 3 + k) := by
  show nI p * nI 3 + nI k = _
  rw [pk_mul, nI_add]
theorem xb_3 (p : Nat) : nI p * 3 = nI (p * 3) := pk_mul p 3
theorem tr_ar_3' (k : Nat) : tr_ar k ≤ 3 := by
  unfold tr_ar
  by_cases a : k = 2
  · rw [if_pos a]; omega
  · rw [if_neg a]
    by_cases b : k = 6
    · rw [if_pos b]; omega
    · rw [if_neg b]
      by_cases c : 3 ≤ k
      · rw [if_pos c]; omega
      · rw [if_neg c]; omega
theorem xx_childrenOf {post : Int32 → Prop} {k : Nat} (hk : k ≤ 6) (h : post (nI (tr_ar k))) : wpX_childrenOf post (nI k) := by
  have hc : k = 0 ∨ k = 1 ∨ k = 2 ∨ k = 3 ∨ k = 4 ∨ k = 5 ∨ k = 6 := by omega
  unfold wpX_childrenOf
  rcases hc with rfl | rfl | rfl | rfl | rfl | rfl | rfl
  · exact br_t (by decide) h
  · exact br_t (by decide) h
  · exact br_f (by decide) (br_f (by decide) (br_t (by decide) h))
  · exact br_f (by decide) (br_f (by decide) (br_f (by decide) (br_t (by decide) h)))
  · exact br_f (by decide) (br_f (by decide) (br_f (by decide) (br_f (by decide) (br_t (by decide) h))))
  · exact br_f (by decide) (br_f (by decide) (br_f (by decide) (br_f (by decide) (br_f (by decide) (br_t (by decide) h)))))
  · exact br_f (by decide) (br_f (by decide) (br_f (by decide) (br_f (by decide) (br_f (by decide) (br_f (by decide) (br_t (by decide) h))))))
section
variable {f_cellLimit f_callLimit f_closureLimit f_nodes f_holes f_lambdas f_stageReached f_grown f_codeLength f_runningEngine f_ending f_callCount f_closureCount f_frame f_waitingCount : Int32} {a_kinds a_operands a_parents a_places a_children a_levels a_nests a_scopes a_nodeLambdas a_lambdaNodes a_liveNodes a_nodeFlows a_paramFlows a_codeOps a_codeNodes a_codeTargets a_branchSpots a_entries a_frameReturns a_closureLambdas a_records a_calledSets : Nat → Int32} {a_closureValues a_frameValues a_waiting : Nat → Int64}
theorem xx_childAt {post : Int32 → Prop} {p k : Nat} (hp : p < 48) (hk : k < 3) (h : post (a_children (p * 3 + k))) : wpX_childAt post (f_cellLimit, f_callLimit, f_closureLimit, f_nodes, f_holes, f_lambdas, f_stageReached, f_grown, f_codeLength, f_runningEngine, f_ending, f_callCount, f_closureCount, f_frame, f_waitingCount, a_kinds, a_operands, a_parents, a_places, a_children, a_levels, a_nests, a_scopes, a_nodeLambdas, a_lambdaNodes, a_liveNodes, a_nodeFlows, a_paramFlows, a_codeOps, a_codeNodes, a_codeTargets, a_branchSpots, a_entries, a_frameReturns, a_frameValues, a_closureLambdas, a_closureValues, a_waiting, a_records, a_calledSets) (nI p) (nI k) := by
  show vp_in (nI p * 3 + nI k) 144 ∧ post (a_children (nI p * 3 + nI k).toNatClampNeg)
  rw [xb_ix, nI_clamp (by omega)]
  exact ⟨vp_in_nI (by omega) (by omega), h⟩
theorem xx_bodyOf {post : Int32 → Prop} {l a : Nat} (hl : l < 16) (ha : a < 48) (e : a_lambdaNodes l = nI a) (h : post (a_children (a * 3))) : wpX_bodyOf post (f_cellLimit, f_callLimit, f_closureLimit, f_nodes, f_holes, f_lambdas, f_stageReached, f_grown, f_codeLength, f_runningEngine, f_ending, f_callCount, f_closureCount, f_frame, f_waitingCount, a_kinds, a_operands, a_parents, a_places, a_children, a_levels, a_nests, a_scopes, a_nodeLambdas, a_lambdaNodes, a_liveNodes, a_nodeFlows, a_paramFlows, a_codeOps, a_codeNodes, a_codeTargets, a_branchSpots, a_entries, a_frameReturns, a_frameValues, a_closureLambdas, a_closureValues, a_waiting, a_records, a_calledSets) (nI l) := by
  show vp_in (nI l) 16 ∧ (vp_in (a_lambdaNodes (nI l).toNatClampNeg * 3) 144 ∧ post (a_children (a_lambdaNodes (nI l).toNatClampNeg * 3).toNatClampNeg))
  rw [nI_clamp (by omega), e, xb_3, nI_clamp (by omega)]
  exact ⟨vp_in_nI hl (by omega), vp_in_nI (by omega) (by omega), h⟩
theorem xx_isNode {post : Int32 → Prop} {n : Nat} {x : Int32} (hn : n ≤ 48) (h0 : (x < 0 ∨ nI n ≤ x) → post 0) (h1 : ∀ j, j < n → x = nI j → post 1) : wpX_isNode post (f_cellLimit, f_callLimit, f_closureLimit, (nI n), f_holes, f_lambdas, f_stageReached, f_grown, f_codeLength, f_runningEngine, f_ending, f_callCount, f_closureCount, f_frame, f_waitingCount, a_kinds, a_operands, a_parents, a_places, a_children, a_levels, a_nests, a_scopes, a_nodeLambdas, a_lambdaNodes, a_liveNodes, a_nodeFlows, a_paramFlows, a_codeOps, a_codeNodes, a_codeTargets, a_branchSpots, a_entries, a_frameReturns, a_frameValues, a_closureLambdas, a_closureValues, a_waiting, a_records, a_calledSets) x := by
  show (x < 0 → post 0) ∧ (¬ x < 0 → ((nI n ≤ x → post 0) ∧ (¬ nI n ≤ x → post 1)))
  refine br_c (fun z => h0 (Or.inl z)) (fun z => br_c (fun y => h0 (Or.inr y)) (fun y => ?_))
  rcases pk_ix x (n := n) (by omega) with w | w | ⟨j, w1, w2⟩
  · exact absurd w z
  · exact absurd w y
  · exact h1 j w1 w2
theorem xx_filled_l {post : Int32 → Prop} {K P : Nat → Nat} {n p c : Nat} (Ok : tr_Ok K P n) (hn : n ≤ 48) (hp : p < n) (C : re_C n P a_children) (hc : tr_cnt P p n = c) (h : post (nI c)) : ∀ d k x m, k + d = 3 → d < m → (k ≤ c → x = k) → (c ≤ k → x = c) → wX_filledPlaces_4 post (nI p) f_cellLimit f_callLimit f_closureLimit f_nodes f_holes f_lambdas f_stageReached f_grown f_codeLength f_runningEngine f_ending f_callCount f_closureCount f_frame f_waitingCount a_kinds a_operands a_parents a_places a_children a_levels a_nests a_scopes a_nodeLambdas a_lambdaNodes a_liveNodes a_nodeFlows a_paramFlows a_codeOps a_codeNodes a_codeTargets a_branchSpots a_entries a_frameReturns a_frameValues a_closureLambdas a_closureValues a_waiting a_records a_calledSets m (nI x) (nI k) := by
  intro d
  induction d with
  | zero =>
    intro k x m hk hm h1 h2
    obtain ⟨m, rfl⟩ : ∃ m', m = m' + 1 := ⟨m - 1, by omega⟩
    have hk3 : k = 3 := by omega
    have hc3 : c ≤ 3 := by
      have := tr_cnt_ar (p := p) Ok n (Nat.le_refl n)
      have := tr_ar_3' (K p)
      omega
    subst hk3
    rw [h2 hc3]
    exact br_t (by decide) h
  | succ d ih =>
    intro k x m hk hm h1 h2
    obtain ⟨m, rfl⟩ : ∃ m', m = m' + 1 := ⟨m - 1, by omega⟩
    have hlt : ¬ (3 : Int32) ≤ nI k := nI_ge (b := 3) (by omega) (by decide)
    obtain ⟨c1, c2⟩ := C p hp k (by omega)
    refine br_f hlt ?_
    rw [xb_ix, nI_clamp (by omega)]
    refine ⟨vp_in_nI (by omega) (by omega), ?_⟩
    by_cases z : k < c
    · obtain ⟨q, q0, q1, q2, q3⟩ := tr_find (P := P) (p := p) (k := k) n (by omega)
      rw [c1 q q0 q1 q2 q3]
      refine br_f (nI_pos (by omega)) (nm_r (nI_1 x) (nm_r (nI_1 k) ?_))
      refine ih (k + 1) (x + 1) m (by omega) (by omega) (fun _ => ?_) (fun w => ?_)
      · have := h1 (by omega); omega
      · have := h1 (by omega); omega
    · rw [c2 (by omega)]
      refine br_t (by decide) (nm_r (nI_1 k) ?_)
      refine ih (k + 1) x m (by omega) (by omega) (fun w => ?_) (fun w => ?_)
      · omega
      · exact h2 (by omega)
theorem xx_filledPlaces {post : Int32 → Prop} {K P : Nat → Nat} {n p : Nat} (Ok : tr_Ok K P n) (hn : n ≤ 48) (hp : p < n) (C : re_C n P a_children) (h : post (nI (tr_cnt P p n))) : wpX_filledPlaces post (f_cellLimit, f_callLimit, f_closureLimit, f_nodes, f_holes, f_lambdas, f_stageReached, f_grown, f_codeLength, f_runningEngine, f_ending, f_callCount, f_closureCount, f_frame, f_waitingCount, a_kinds, a_operands, a_parents, a_places, a_children, a_levels, a_nests, a_scopes, a_nodeLambdas, a_lambdaNodes, a_liveNodes, a_nodeFlows, a_paramFlows, a_codeOps, a_codeNodes, a_codeTargets, a_branchSpots, a_entries, a_frameReturns, a_frameValues, a_closureLambdas, a_closureValues, a_waiting, a_records, a_calledSets) (nI p) :=
  ⟨4, xx_filled_l Ok hn hp C rfl h 3 0 0 4 rfl (by omega) (fun _ => rfl) (fun z => by omega)⟩
theorem xx_parent_l {post : Int32 → Prop} {K P : Nat → Nat} {n q : Nat} (Ok : tr_Ok K P n) (hn : n ≤ 48) (hk : ∀ m, m < n → a_kinds m = nI (K m) ∧ K m ≤ 6) (C : re_C n P a_children) (hq : q < n) (hq1 : tr_cnt P q n < tr_ar (K q)) (hq2 : ∀ r, q < r → r < n → tr_ar (K r) ≤ tr_cnt P r n) (h : post (nI q)) : ∀ j m, q ≤ j → j < n → j - q < m → wX_parentOfLeftmostHole_7 post f_cellLimit f_callLimit f_closureLimit f_nodes f_holes f_lambdas f_stageReached f_grown f_codeLength f_runningEngine f_ending f_callCount f_closureCount f_frame f_waitingCount a_kinds a_operands a_parents a_places a_children a_levels a_nests a_scopes a_nodeLambdas a_lambdaNodes a_liveNodes a_nodeFlows a_paramFlows a_codeOps a_codeNodes a_codeTargets a_branchSpots a_entries a_frameReturns a_frameValues a_closureLambdas a_closureValues a_waiting a_records a_calledSets m (nI j) := by
  intro j
  induction j with
  | zero =>
    intro m h1 h2 h3
    obtain ⟨m, rfl⟩ : ∃ m', m = m' + 1 := ⟨m - 1, by omega⟩
    have e : q = 0 := by omega
    subst e
    refine br_f (nI_pos (by omega)) (xx_filledPlaces Ok hn hq C ⟨vp_in_nI (by omega) (by omega), ?_⟩)
    rw [nI_clamp (by omega), (hk 0 h2).1]
    refine xx_childrenOf (hk 0 h2).2 (br_f ?_ h)
    have := tr_ar_3' (K 0)
    exact nI_ge hq1 (by omega)
  | succ j ih =>
    intro m h1 h2 h3
    obtain ⟨m, rfl⟩ : ∃ m', m = m' + 1 := ⟨m - 1, by omega⟩
    have a3 := tr_ar_3' (K (j + 1))
    have c3 := tr_cnt_ar (p := j + 1) Ok n (Nat.le_refl n)
    refine br_f (nI_pos (by omega)) (xx_filledPlaces Ok hn h2 C ⟨vp_in_nI (by omega) (by omega), ?_⟩)
    rw [nI_clamp (by omega), (hk _ h2).1]
    refine xx_childrenOf (hk _ h2).2 ?_
    by_cases e : q = j + 1
    · subst e
      exact br_f (nI_ge hq1 (by omega)) h
    · refine br_t (nI_le (hq2 (j + 1) (by omega) h2) (by omega)) (nm_r (pk_m1 j) ?_)
      exact ih m (by omega) (by omega) (by omega)
theorem xx_parent {post : Int32 → Prop} {K P : Nat → Nat} {n p : Nat} (Ok : tr_Ok K P n) (hn : n ≤ 48) (hk : ∀ m, m < n → a_kinds m = nI (K m) ∧ K m ≤ 6) (C : re_C n P a_children) (hp : re_p K P n p) (h : post (if n = 0 then -1 else nI p)) : wpX_parentOfLeftmostHole post (f_cellLimit, f_callLimit, f_closureLimit, (nI n), f_holes, f_lambdas, f_stageReached, f_grown, f_codeLength, f_runningEngine, f_ending, f_callCount, f_closureCount, f_frame, f_waitingCount, a_kinds, a_operands, a_parents, a_places, a_children, a_levels, a_nests, a_scopes, a_nodeLambdas, a_lambdaNodes, a_liveNodes, a_nodeFlows, a_paramFlows, a_codeOps, a_codeNodes, a_codeTargets, a_branchSpots, a_entries, a_frameReturns, a_frameValues, a_closureLambdas, a_closureValues, a_waiting, a_records, a_calledSets) := by
  by_cases z : n = 0
  · subst z
    rw [if_pos rfl] at h
    exact nm_r (show nI 0 - 1 = -1 by decide) ⟨1, br_t (by decide) h⟩
  · rw [if_neg z] at h
    obtain ⟨p1, p2, p3⟩ := hp (by omega)
    refine nm_r (show nI n - 1 = nI (n - 1) from pk_sub (b := 1) (by omega)) ⟨49, ?_⟩
    exact xx_parent_l Ok hn hk C p1 p2 p3 h (n - 1) 49 (by omega) (by omega) (by omega)
end
end
section
/-! ===== the class: a new node ===== -/
/-- the parent as an int -/
def xp_p (n p : Nat) : Int32 := if n = 0 then -1 else nI p
theorem xp_p0 (p : Nat) : xp_p 0 p = -1 := rfl
theorem xp_p1 {n : Nat} (p : Nat) (h : 0 < n) : xp_p n p = nI p := if_neg (by omega)
theorem re_uu {f : Nat → Int32} {k : Nat} {x y : Int32} : upd (upd f k x) k y = upd f k y := by
  funext j
  unfold upd
  by_cases z : j = k
  · rw [if_pos z, if_pos z]
  · rw [if_neg z, if_neg z, if_neg z]
section
variable {f_cellLimit f_callLimit f_closureLimit f_nodes f_holes f_lambdas f_stageReached f_grown f_codeLength f_runningEngine f_ending f_callCount f_closureCount f_frame f_waitingCount : Int32} {a_kinds a_operands a_parents a_places a_children a_levels a_nests a_scopes a_nodeLambdas a_lambdaNodes a_liveNodes a_nodeFlows a_paramFlows a_codeOps a_codeNodes a_codeTargets a_branchSpots a_entries a_frameReturns a_closureLambdas a_records a_calledSets : Nat → Int32} {a_closureValues a_frameValues a_waiting : Nat → Int64}
variable {cs n h L p : Nat} {K P N Lv S O B : Nat → Nat}
theorem xx_nestUnder {post : Int32 → Prop} (hn : n ≤ 48) (hp : re_p K P n p) (hk : 0 < n → a_kinds p = nI (K p) ∧ K p ≤ 6) (hv : 0 < n → a_nests p = nI (N p)) (hpost : post (nI (re_nu K N n p))) : wpX_nestUnder post (f_cellLimit, f_callLimit, f_closureLimit, f_nodes, f_holes, f_lambdas, f_stageReached, f_grown, f_codeLength, f_runningEngine, f_ending, f_callCount, f_closureCount, f_frame, f_waitingCount, a_kinds, a_operands, a_parents, a_places, a_children, a_levels, a_nests, a_scopes, a_nodeLambdas, a_lambdaNodes, a_liveNodes, a_nodeFlows, a_paramFlows, a_codeOps, a_codeNodes, a_codeTargets, a_branchSpots, a_entries, a_frameReturns, a_frameValues, a_closureLambdas, a_closureValues, a_waiting, a_records, a_calledSets) (xp_p n p) := by
  unfold re_nu at hpost
  by_cases z : n = 0
  · rw [if_pos z] at hpost
    subst z
    rw [xp_p0]
    exact br_f (by decide) hpost
  · rw [if_neg z] at hpost
    have z' : 0 < n := by omega
    have h48 := (hp z').1
    rw [xp_p1 p z']
    refine br_t (nI_pos' (by omega)) ⟨vp_in_nI (by omega) (by omega), ?_⟩
    rw [nI_clamp (by omega), (hk z').1, hv z']
    by_cases k2 : K p = 2
    · rw [if_pos k2] at hpost
      rw [k2]
      exact br_t (by decide) ⟨vp_in_nI (by omega) (by omega), by rw [nI_1]; exact hpost⟩
    · rw [if_neg k2] at hpost
      refine br_f (fun w => k2 ?_) ⟨vp_in_nI (by omega) (by omega), hpost⟩
      have := (hk z').2
      exact (nI_eq (b := 2) (by omega) (by decide)).mp w
theorem xx_levelUnder {post : Int32 → Prop} (hn : n ≤ 48) (hp : re_p K P n p) (hk : 0 < n → a_kinds p = nI (K p) ∧ K p ≤ 6) (hv : 0 < n → a_levels p = nI (Lv p)) (hpost : post (nI (re_lu K Lv n p))) : wpX_levelUnder post (f_cellLimit, f_callLimit, f_closureLimit, f_nodes, f_holes, f_lambdas, f_stageReached, f_grown, f_codeLength, f_runningEngine, f_ending, f_callCount, f_closureCount, f_frame, f_waitingCount, a_kinds, a_operands, a_parents, a_places, a_children, a_levels, a_nests, a_scopes, a_nodeLambdas, a_lambdaNodes, a_liveNodes, a_nodeFlows, a_paramFlows, a_codeOps, a_codeNodes, a_codeTargets, a_branchSpots, a_entries, a_frameReturns, a_frameValues, a_closureLambdas, a_closureValues, a_waiting, a_records, a_calledSets) (xp_p n p) := by
  unfold re_lu at hpost
  by_cases z : n = 0
  · rw [if_pos z] at hpost
    subst z
    rw [xp_p0]
    exact br_t (by decide) hpost
  · rw [if_neg z] at hpost
    have z' : 0 < n := by omega
    have h48 := (hp z').1
    rw [xp_p1 p z']
    refine br_f (nI_pos (by omega)) ⟨vp_in_nI (by omega) (by omega), ?_⟩
    rw [nI_clamp (by omega), (hk z').1, hv z']
    by_cases k2 : K p = 2
    · rw [if_pos k2] at hpost
      rw [k2]
      exact br_t (by decide) hpost
    · rw [if_neg k2] at hpost
      refine br_f (fun w => k2 ?_) ⟨vp_in_nI (by omega) (by omega), by rw [nI_1]; exact hpost⟩
      have := (hk z').2
      exact (nI_eq (b := 2) (by omega) (by decide)).mp w
theorem xx_scopeUnder {post : Int32 → Prop} (hn : n ≤ 48) (hp : re_p K P n p) (hk : 0 < n → a_kinds p = nI (K p) ∧ K p ≤ 6) (hv : 0 < n → a_scopes p = nI (S p)) (hl : 0 < n → K p = 2 → a_nodeLambdas p = nI (tr_lc K p) ∧ tr_lc K p < 16) (hpost : post (nI (re_su K S n p))) : wpX_scopeUnder post (f_cellLimit, f_callLimit, f_closureLimit, f_nodes, f_holes, f_lambdas, f_stageReached, f_grown, f_codeLength, f_runningEngine, f_ending, f_callCount, f_closureCount, f_frame, f_waitingCount, a_kinds, a_operands, a_parents, a_places, a_children, a_levels, a_nests, a_scopes, a_nodeLambdas, a_lambdaNodes, a_liveNodes, a_nodeFlows, a_paramFlows, a_codeOps, a_codeNodes, a_codeTargets, a_branchSpots, a_entries, a_frameReturns, a_frameValues, a_closureLambdas, a_closureValues, a_waiting, a_records, a_calledSets) (xp_p n p) := by
  unfold re_su at hpost
  by_cases z : n = 0
  · rw [if_pos z] at hpost
    subst z
    rw [xp_p0]
    exact br_f (by decide) hpost
  · rw [if_neg z] at hpost
    have z' : 0 < n := by omega
    have h48 := (hp z').1
    rw [xp_p1 p z']
    refine br_t (nI_pos' (by omega)) ⟨vp_in_nI (by omega) (by omega), ?_⟩
    rw [nI_clamp (by omega), (hk z').1, hv z']
    by_cases k2 : K p = 2
    · rw [if_pos k2] at hpost
      obtain ⟨l1, l2⟩ := hl z' k2
      rw [k2]
      refine br_t (by decide) ⟨vp_in_nI (by omega) (by omega), vp_in_nI (by omega) (by omega), ?_⟩
      rw [l1, bi_shl _ (by omega), bi_or]
      exact hpost
    · rw [if_neg k2] at hpost
      refine br_f (fun w => k2 ?_) ⟨vp_in_nI (by omega) (by omega), hpost⟩
      have := (hk z').2
      exact (nI_eq (b := 2) (by omega) (by decide)).mp w
/-- the scan for the binder -/
theorem xx_binder_l {post : Int32 → Prop} {s o nu : Nat} (hs : s < 65536) (ho : o < 2 ^ 31) (h1 : ∀ l, s.testBit l = true → tr_bc (fun j => s.testBit j) l + o + 1 = nu → post (nI l)) (h2 : nu ≤ o → post (-1)) : ∀ j x m, j ≤ 16 → j < m → x ≤ o → x + nu = o + tr_bc (fun j => s.testBit j) j → wX_binderAt_23 post (nI s) f_cellLimit f_callLimit f_closureLimit f_nodes f_holes f_lambdas f_stageReached f_grown f_codeLength f_runningEngine f_ending f_callCount f_closureCount f_frame f_waitingCount a_kinds a_operands a_parents a_places a_children a_levels a_nests a_scopes a_nodeLambdas a_lambdaNodes a_liveNodes a_nodeFlows a_paramFlows a_codeOps a_codeNodes a_codeTargets a_branchSpots a_entries a_frameReturns a_frameValues a_closureLambdas a_closureValues a_waiting a_records a_calledSets m (nI x) (if j = 0 then -1 else nI (j - 1)) := by
  intro j
  induction j with
  | zero =>
    intro x m h3 h4 h5 h6
    obtain ⟨m, rfl⟩ : ∃ m', m = m' + 1 := ⟨m - 1, by omega⟩
    have h6' : x + nu = o + 0 := h6
    exact br_t (by decide) (h2 (by omega))
  | succ j ih =>
    intro x m h3 h4 h5 h6
    obtain ⟨m, rfl⟩ : ∃ m', m = m' + 1 := ⟨m - 1, by omega⟩
    rw [if_neg (by omega), Nat.add_sub_cancel]
    have h6' : x + nu = o + (tr_bc (fun j => s.testBit j) j + (if s.testBit j = true then 1 else 0)) := h6
    have dn : nI j + (-1) = (if j = 0 then -1 else nI (j - 1)) := by
      cases j with
      | zero => decide
      | succ j => rw [if_neg (by omega), Nat.add_sub_cancel]; exact pk_m1 j
    refine br_f (nI_pos (by omega)) ?_
    cases e : s.testBit j with
    | false =>
      rw [e, if_neg (by decide)] at h6'
      refine br_t ((bi_test (by omega) (by omega)).mpr e) (nm_r dn ?_)
      exact ih x m (by omega) (by omega) h5 (by omega)
    | true =>
      rw [e, if_pos rfl] at h6'
      refine br_f (fun w => ?_) ?_
      · rw [(bi_test (by omega) (by omega)).mp w] at e; cases e
      · cases x with
        | zero => exact br_t rfl (h1 j e (by omega))
        | succ x =>
          refine br_f (nI_ne0 (by omega) (by omega)) (nm_r (pk_m1 x) (nm_r dn ?_))
          exact ih x m (by omega) (by omega) (by omega) (by omega)
theorem xx_binderAt {post : Int32 → Prop} (A : re_A cs n h L K P N Lv S O B) (hp : re_p K P n p) (hk : 0 < n → a_kinds p = nI (K p) ∧ K p ≤ 6) (hv : 0 < n → a_scopes p = nI (S p)) (hl : 0 < n → K p = 2 → a_nodeLambdas p = nI (tr_lc K p) ∧ tr_lc K p < 16) {v : Int32}
    (h1 : ∀ o b, o < 2 ^ 31 → v = nI o → o < re_nu K N n p → b < n → K b = 2 → (re_su K S n p).testBit (tr_lc K b) = true → N b + o + 1 = re_nu K N n p → post (nI (tr_lc K b))) (h2 : (v < 0 ∨ nI (re_nu K N n p) ≤ v) → post (-1)) : wpX_binderAt post (f_cellLimit, f_callLimit, f_closureLimit, f_nodes, f_holes, (nI L), f_stageReached, f_grown, f_codeLength, f_runningEngine, f_ending, f_callCount, f_closureCount, f_frame, f_waitingCount, a_kinds, a_operands, a_parents, a_places, a_children, a_levels, a_nests, a_scopes, a_nodeLambdas, a_lambdaNodes, a_liveNodes, a_nodeFlows, a_paramFlows, a_codeOps, a_codeNodes, a_codeTargets, a_branchSpots, a_entries, a_frameReturns, a_frameValues, a_closureLambdas, a_closureValues, a_waiting, a_records, a_calledSets) (xp_p n p) v := by
  obtain ⟨u1, u2, u3⟩ := re_nu_5 A hp
  obtain ⟨r1, r2⟩ := re_rank A hp
  have hn : n ≤ 48 := by have := A.2.2.1; have := A.2.2.2.1; omega
  have hL := A.2.2.2.2.2.1
  refine br_c (fun z => ?_) (fun z => h2 (Or.inl (Int32.not_le.mp z)))
  obtain ⟨o, ho, rfl⟩ := nI_of (x := v) (Int32.not_lt.mpr z)
  refine xx_scopeUnder hn hp hk hv hl (nm_r (e' := if L = 0 then -1 else nI (L - 1)) ?_ ⟨17, ?_⟩)
  · by_cases y : L = 0
    · subst y; decide
    · rw [if_neg y]; exact pk_sub (b := 1) (by omega)
  · refine xx_binder_l u3 ho (fun l hl' e => ?_) (fun y => h2 (Or.inr (nI_le y ho))) L o 17 hL (by omega) (Nat.le_refl o) ?_
    · obtain ⟨b, b1, b2, b3, b4⟩ := r1 l hl'
      rw [← b3]
      exact h1 o b ho rfl (by omega) b1 b2 (by rw [b3]; exact hl') (by omega)
    · rw [r2 L (Nat.le_refl L)]
theorem xx_isTooDeep {post : Int32 → Prop} {k : Nat} (hk6 : k ≤ 6) (A : re_A cs n h L K P N Lv S O B) (hp : re_p K P n p) (hk : 0 < n → a_kinds p = nI (K p) ∧ K p ≤ 6) (hv : 0 < n → a_nests p = nI (N p)) (hv2 : 0 < n → a_levels p = nI (Lv p)) (h0 : (k = 2 → re_nu K N n p ≤ 4) → (3 ≤ k → re_lu K Lv n p ≤ 4) → post 0) (h1 : (k = 2 ∧ re_nu K N n p = 5) ∨ (3 ≤ k ∧ re_lu K Lv n p = 5) → post 1) : wpX_isTooDeep post (f_cellLimit, f_callLimit, f_closureLimit, f_nodes, f_holes, f_lambdas, f_stageReached, f_grown, f_codeLength, f_runningEngine, f_ending, f_callCount, f_closureCount, f_frame, f_waitingCount, a_kinds, a_operands, a_parents, a_places, a_children, a_levels, a_nests, a_scopes, a_nodeLambdas, a_lambdaNodes, a_liveNodes, a_nodeFlows, a_paramFlows, a_codeOps, a_codeNodes, a_codeTargets, a_branchSpots, a_entries, a_frameReturns, a_frameValues, a_closureLambdas, a_closureValues, a_waiting, a_records, a_calledSets) (nI k) (xp_p n p) := by
  obtain ⟨u1, u2, u3⟩ := re_nu_5 A hp
  have hn : n ≤ 48 := by have := A.2.2.1; have := A.2.2.2.1; omega
  by_cases z : k = 2
  · subst z
    refine br_t (by decide) (xx_nestUnder hn hp hk hv ?_)
    by_cases y : re_nu K N n p = 5
    · rw [y]
      exact br_f (by decide) (h1 (Or.inl ⟨rfl, y⟩))
    · exact br_t (nI_lt (b := 5) (by omega) (by decide)) (h0 (fun _ => by omega) (fun _ => by omega))
  · refine br_f (fun w => z ((nI_eq (b := 2) (by omega) (by decide)).mp w)) (xx_childrenOf hk6 ?_)
    by_cases y : 3 ≤ k
    · have ha : 0 < tr_ar k := by
        by_cases k6 : k = 6
        · rw [tr_ar_3 k6]; omega
        · rw [tr_ar_2 y k6]; omega
      have := tr_ar_3' k
      refine br_f (nI_nle ha (by omega)) (xx_levelUnder hn hp hk hv2 ?_)
      by_cases x : re_lu K Lv n p = 5
      · rw [x]
        exact br_f (by decide) (h1 (Or.inr ⟨y, x⟩))
      · exact br_t (nI_lt (b := 5) (by omega) (by decide)) (h0 (fun _ => by omega) (fun _ => by omega))
    · rw [tr_ar_0 (show k < 2 by omega)]
      exact br_t (by decide) (h0 (fun _ => by omega) (fun _ => by omega))
end
end
section
/-! ===== the class: put ===== -/
section
variable {f_cellLimit f_callLimit f_closureLimit f_nodes f_holes f_lambdas f_stageReached f_grown f_codeLength f_runningEngine f_ending f_callCount f_closureCount f_frame f_waitingCount : Int32} {a_kinds a_operands a_parents a_places a_children a_levels a_nests a_scopes a_nodeLambdas a_lambdaNodes a_liveNodes a_nodeFlows a_paramFlows a_codeOps a_codeNodes a_codeTargets a_branchSpots a_entries a_frameReturns a_closureLambdas a_records a_calledSets : Nat → Int32} {a_closureValues a_frameValues a_waiting : Nat → Int64}
variable {cs n h L p : Nat} {K P N Lv S O B : Nat → Nat}
theorem xx_place_end {post : SX → Prop} (Ok : tr_Ok K P n) (hn : n < 48) (hp : re_p K P n p) (C : re_C n P a_children) {ch : Nat → Int32} (hch : ch = upd (upd (upd a_children (n * 3 + 0) (-1)) (n * 3 + 1) (-1)) (n * 3 + 2) (-1))
    (hpost : ∀ ch', re_C (n + 1) (tr_put P n p) ch' → post (f_cellLimit, f_callLimit, f_closureLimit, (nI n), f_holes, f_lambdas, f_stageReached, f_grown, f_codeLength, f_runningEngine, f_ending, f_callCount, f_closureCount, f_frame, f_waitingCount, a_kinds, a_operands, a_parents, (upd a_places n (if n = 0 then 0 else nI (tr_cnt P p n))), ch', a_levels, a_nests, a_scopes, a_nodeLambdas, a_lambdaNodes, a_liveNodes, a_nodeFlows, a_paramFlows, a_codeOps, a_codeNodes, a_codeTargets, a_branchSpots, a_entries, a_frameReturns, a_frameValues, a_closureLambdas, a_closureValues, a_waiting, a_records, a_calledSets)) (m : Nat) : wX_placeUnder_64 post (xp_p n p) f_cellLimit f_callLimit f_closureLimit (nI n) f_holes f_lambdas f_stageReached f_grown f_codeLength f_runningEngine f_ending f_callCount f_closureCount f_frame f_waitingCount (m + 1) 3 a_kinds a_operands a_parents (upd a_places n 0) ch a_levels a_nests a_scopes a_nodeLambdas a_lambdaNodes a_liveNodes a_nodeFlows a_paramFlows a_codeOps a_codeNodes a_codeTargets a_branchSpots a_entries a_frameReturns a_frameValues a_closureLambdas a_closureValues a_waiting a_records a_calledSets := by
  have q1 : ∀ k, k < 3 → ch (n * 3 + k) = -1 := fun k hk => by
    rw [hch]
    by_cases z2 : k = 2
    · rw [z2, re_us]
    · rw [re_un (by omega)]
      by_cases z1 : k = 1
      · rw [z1, re_us]
      · rw [re_un (by omega), show k = 0 by omega, re_us]
  have q2 : ∀ j, j < n * 3 → ch j = a_children j := fun j hj => by
    rw [hch, re_un (by omega), re_un (by omega), re_un (by omega)]
  refine br_t (by decide) ?_
  by_cases z : n = 0
  · subst z
    rw [xp_p0]
    refine br_t (by decide) ?_
    have hh := hpost ch (re_C_put Ok hp C q1 (fun w => absurd w (Nat.lt_irrefl 0)) (fun j hj _ => q2 j hj) (fun w => absurd w (Nat.lt_irrefl 0)))
    rw [if_pos rfl] at hh
    exact hh
  · have z' : 0 < n := by omega
    obtain ⟨p1, p2, p3⟩ := hp z'
    have c3 : tr_cnt P p n < 3 := by have := tr_ar_3' (K p); omega
    rw [xp_p1 p z']
    refine br_f (nI_pos (by omega)) (xx_filledPlaces Ok (by omega) p1 (fun q hq k hk => ?_) ⟨vp_in_nI hn (by omega), ?_⟩)
    · rw [q2 (q * 3 + k) (by omega)]
      exact C q hq k hk
    · rw [nI_clamp (by omega), xb_ix, nI_clamp (by omega), re_uu]
      refine nm_e ⟨vp_in_nI (by omega) (by omega), nm_e ?_⟩
      have hh := hpost (upd ch (p * 3 + tr_cnt P p n) (nI n)) (re_C_put Ok hp C (fun k hk => ?_) (fun _ => re_us) (fun j hj w => ?_) (fun _ => c3))
      · rw [if_neg z] at hh
        exact hh
      · rw [re_un (by omega)]; exact q1 k hk
      · rw [re_un (w z')]; exact q2 j hj
theorem xx_placeUnder {post : SX → Prop} (A : re_A cs n h L K P N Lv S O B) (hh : 0 < h) (hp : re_p K P n p) (X : re_X n K P N Lv S O B a_kinds a_operands a_parents a_places a_children a_levels a_nests a_scopes a_nodeLambdas a_lambdaNodes)
    (hpost : ∀ ch', re_C (n + 1) (tr_put P n p) ch' → post (f_cellLimit, f_callLimit, f_closureLimit, (nI n), f_holes, f_lambdas, f_stageReached, f_grown, f_codeLength, f_runningEngine, f_ending, f_callCount, f_closureCount, f_frame, f_waitingCount, a_kinds, a_operands, (upd a_parents n (xp_p n p)), (upd a_places n (if n = 0 then 0 else nI (tr_cnt P p n))), ch', (upd a_levels n (nI (re_lu K Lv n p))), (upd a_nests n (nI (re_nu K N n p))), (upd a_scopes n (nI (re_su K S n p))), a_nodeLambdas, a_lambdaNodes, a_liveNodes, a_nodeFlows, a_paramFlows, a_codeOps, a_codeNodes, a_codeTargets, a_branchSpots, a_entries, a_frameReturns, a_frameValues, a_closureLambdas, a_closureValues, a_waiting, a_records, a_calledSets)) : wpX_placeUnder post (f_cellLimit, f_callLimit, f_closureLimit, (nI n), f_holes, f_lambdas, f_stageReached, f_grown, f_codeLength, f_runningEngine, f_ending, f_callCount, f_closureCount, f_frame, f_waitingCount, a_kinds, a_operands, a_parents, a_places, a_children, a_levels, a_nests, a_scopes, a_nodeLambdas, a_lambdaNodes, a_liveNodes, a_nodeFlows, a_paramFlows, a_codeOps, a_codeNodes, a_codeTargets, a_branchSpots, a_entries, a_frameReturns, a_frameValues, a_closureLambdas, a_closureValues, a_waiting, a_records, a_calledSets) (xp_p n p) := by
  have hn : n < 48 := by have := A.2.2.1; have := A.2.2.2.1; omega
  obtain ⟨x1, x2, x3, x4, x5, x6, x7, x8, x9⟩ := X
  have D := A.2.2.2.2.2.2.2.2.2.1
  have hL := A.2.2.2.2.1
  have hL16 := A.2.2.2.2.2.1
  have pn : 0 < n → p < n := fun z => (hp z).1
  have hi : vp_in (nI n) 48 := vp_in_nI hn (by omega)
  have hc := nI_clamp (n := n) (by omega)
  refine ⟨hi, nm_e ⟨hi, nm_e ?_⟩⟩
  rw [hc]
  refine xx_levelUnder (by omega) hp (fun z => ⟨x1 p (pn z), (D p (pn z)).1⟩) (fun z => (x7 p (pn z)).1) ⟨hi, nm_e ?_⟩
  refine xx_nestUnder (by omega) hp (fun z => ⟨x1 p (pn z), (D p (pn z)).1⟩) (fun z => (x7 p (pn z)).2.1) ⟨hi, nm_e ?_⟩
  refine xx_scopeUnder (by omega) hp (fun z => ⟨x1 p (pn z), (D p (pn z)).1⟩) (fun z => (x7 p (pn z)).2.2) (fun z k => ⟨(x8 p (pn z)).2.1 k, ?_⟩) ⟨hi, nm_e ?_⟩
  · have := tr_lc_lt (pn z) k
    omega
  · have ix : ∀ k, k < 3 → vp_in (nI n * 3 + nI k) 144 ∧ (nI n * 3 + nI k).toNatClampNeg = n * 3 + k := fun k hk => by
      rw [xb_ix, nI_clamp (by omega)]
      exact ⟨vp_in_nI (by omega) (by omega), rfl⟩
    obtain ⟨i0, j0⟩ := ix 0 (by omega)
    obtain ⟨i1, j1⟩ := ix 1 (by omega)
    obtain ⟨i2, j2⟩ := ix 2 (by omega)
    refine ⟨4, br_f (by decide) ⟨i0, nm_r (congrArg (fun z => upd a_children z (-1)) j0) (nm_r (show (0 : Int32) + 1 = nI 1 by decide) ?_)⟩⟩
    refine br_f (by decide) ⟨i1, nm_r (congrArg (fun z => upd _ z (-1)) j1) (nm_r (show nI 1 + 1 = nI 2 by decide) ?_)⟩
    refine br_f (by decide) ⟨i2, nm_r (congrArg (fun z => upd _ z (-1)) j2) (nm_r (show nI 2 + 1 = nI 3 by decide) ?_)⟩
    exact xx_place_end A.1 hn hp x6 rfl hpost 0
end
end
section
/-! ===== the reference: walks over the term ===== -/
section
variable {g_cellLimit g_callLimit g_closureLimit g_nodes g_holes g_reached : Int32} {b_kinds b_operands b_parents b_s b_p b_rec b_sets b_live b_done b_fn b_val b_entered b_bind : Nat → Int32}
variable {cs n h L : Nat} {K P N Lv S O B : Nat → Nat}
theorem yy_has {post : Int32 → Prop} {x : Int32} (hn : n ≤ 48) (h0 : (x < 0 ∨ nI n ≤ x) → post 0) (h1 : ∀ j, j < n → x = nI j → post 1) : wpY_has post (g_cellLimit, g_callLimit, g_closureLimit, (nI n), g_holes, g_reached, b_kinds, b_operands, b_parents, b_s, b_p, b_rec, b_sets, b_live, b_done, b_fn, b_val, b_entered, b_bind) x := by
  refine br_c (fun z => h0 (Or.inl z)) (fun z => br_c (fun y => h0 (Or.inr y)) (fun y => ?_))
  rcases pk_ix x (n := n) (by omega) with w | w | ⟨j, w1, w2⟩
  · exact absurd w z
  · exact absurd w y
  · exact h1 j w1 w2
theorem yy_arity {post : Int32 → Prop} {k : Nat} (hk : k ≤ 6) (h : post (nI (tr_ar k))) : wpY_arity post (g_cellLimit, g_callLimit, g_closureLimit, g_nodes, g_holes, g_reached, b_kinds, b_operands, b_parents, b_s, b_p, b_rec, b_sets, b_live, b_done, b_fn, b_val, b_entered, b_bind) (nI k) := by
  have hc : k = 0 ∨ k = 1 ∨ k = 2 ∨ k = 3 ∨ k = 4 ∨ k = 5 ∨ k = 6 := by omega
  rcases hc with rfl | rfl | rfl | rfl | rfl | rfl | rfl
  · exact br_f (by decide) (br_f (by decide) (br_t (by decide) h))
  · exact br_f (by decide) (br_f (by decide) (br_t (by decide) h))
  · exact br_t (by decide) h
  · exact br_f (by decide) (br_f (by decide) (br_f (by decide) h))
  · exact br_f (by decide) (br_f (by decide) (br_f (by decide) h))
  · exact br_f (by decide) (br_f (by decide) (br_f (by decide) h))
  · exact br_f (by decide) (br_t (by decide) h)
theorem yy_child_l {post : Int32 → Prop} {p k : Nat} (hn : n ≤ 48) (hk : k < 3) (hpa : ∀ m, 0 < m → m < n → b_parents m = nI (P m)) (Ok : tr_Ok K P n) (hp : p < n) (h1 : ∀ c, 0 < c → c < n → P c = p → tr_cnt P p c = k → post (nI c)) (h2 : tr_cnt P p n ≤ k → post (-1)) : ∀ d c m, c + d = n → d < m → p < c → tr_cnt P p c ≤ k → wY_child_7 post (nI p) (nI k) g_cellLimit g_callLimit g_closureLimit (nI n) g_holes g_reached b_kinds b_operands b_parents b_s b_p b_rec b_sets b_live b_done b_fn b_val b_entered b_bind m (nI (tr_cnt P p c)) (nI c) := by
  intro d
  induction d with
  | zero =>
    intro c m hc hm h0 hle
    obtain ⟨m, rfl⟩ : ∃ m', m = m' + 1 := ⟨m - 1, by omega⟩
    have e : c = n := by omega
    subst e
    exact br_t (nI_le (Nat.le_refl _) (by omega)) (h2 hle)
  | succ d ih =>
    intro c m hc hm h0 hle
    obtain ⟨m, rfl⟩ : ∃ m', m = m' + 1 := ⟨m - 1, by omega⟩
    refine br_f (nI_ge (by omega) (by omega)) ⟨vp_in_nI (by omega) (by omega), ?_⟩
    have hP := (Ok c (by omega) (by omega)).1
    rw [nI_clamp (by omega), hpa c (by omega) (by omega)]
    by_cases z : P c = p
    · rw [z]
      refine br_t rfl (nm_r (nI_1 _) ?_)
      by_cases y : tr_cnt P p c = k
      · rw [y]
        exact br_t rfl (h1 c (by omega) (by omega) z y)
      · refine br_f (fun w => y ((nI_eq (by omega) (by omega)).mp w)) (nm_r (nI_1 c) ?_)
        have e := tr_cnt_s (P := P) (show 0 < c by omega) z
        rw [← e]
        exact ih (c + 1) m (by omega) (by omega) (by omega) (by omega)
    · refine br_f (fun w => z ((nI_eq (by omega) (by omega)).mp w)) (nm_r (nI_1 c) ?_)
      have e := tr_cnt_n (P := P) (p := p) (m := c) (fun w => z w.2)
      rw [← e]
      exact ih (c + 1) m (by omega) (by omega) (by omega) (by omega)
theorem yy_child {post : Int32 → Prop} {p k : Nat} (hn : n ≤ 48) (hk : k < 3) (hpa : ∀ m, 0 < m → m < n → b_parents m = nI (P m)) (Ok : tr_Ok K P n) (hp : p < n) (h1 : ∀ c, 0 < c → c < n → P c = p → tr_cnt P p c = k → post (nI c)) (h2 : tr_cnt P p n ≤ k → post (-1)) : wpY_child post (g_cellLimit, g_callLimit, g_closureLimit, (nI n), g_holes, g_reached, b_kinds, b_operands, b_parents, b_s, b_p, b_rec, b_sets, b_live, b_done, b_fn, b_val, b_entered, b_bind) (nI p) (nI k) := by
  refine nm_r (nI_1 p) ⟨n + 1, ?_⟩
  have e := tr_cnt_0 (p := p) Ok (p + 1) (by omega) (Nat.le_refl _)
  have := yy_child_l (post := post) (g_cellLimit := g_cellLimit) (g_callLimit := g_callLimit) (g_closureLimit := g_closureLimit) (g_holes := g_holes) (g_reached := g_reached) (b_kinds := b_kinds) (b_operands := b_operands) (b_s := b_s) (b_p := b_p) (b_rec := b_rec) (b_sets := b_sets) (b_live := b_live) (b_done := b_done) (b_fn := b_fn) (b_val := b_val) (b_entered := b_entered) (b_bind := b_bind) hn hk hpa Ok hp h1 h2 (n - (p + 1)) (p + 1) (n + 1) (by omega) (by omega) (by omega) (by omega)
  rw [e] at this
  exact this
end
end
section
/-! ===== the reference: LAMs, binders, look ===== -/
section
variable {g_cellLimit g_callLimit g_closureLimit g_nodes g_holes g_reached : Int32} {b_kinds b_operands b_parents b_s b_p b_rec b_sets b_live b_done b_fn b_val b_entered b_bind : Nat → Int32}
variable {cs n h L : Nat} {K P N Lv S O B : Nat → Nat}
theorem yy_ln_l {post : Int32 → Prop} {v : Int32} (hn : n ≤ 48) (hk : ∀ m, m < n → b_kinds m = nI (K m) ∧ K m ≤ 6) (h1 : ∀ m, m < n → K m = 2 → v = nI (tr_lc K m) → post (nI m)) (h2 : (∀ m, m < n → K m = 2 → v ≠ nI (tr_lc K m)) → post (-1)) : ∀ d c m, c + d = n → d < m → (∀ j, j < c → K j = 2 → v ≠ nI (tr_lc K j)) → wY_lambdaNode_4 post v g_cellLimit g_callLimit g_closureLimit (nI n) g_holes g_reached b_kinds b_operands b_parents b_s b_p b_rec b_sets b_live b_done b_fn b_val b_entered b_bind m (nI (tr_lc K c)) (nI c) := by
  intro d
  induction d with
  | zero =>
    intro c m hc hm h0
    obtain ⟨m, rfl⟩ : ∃ m', m = m' + 1 := ⟨m - 1, by omega⟩
    have e : c = n := by omega
    subst e
    exact br_t (nI_le (Nat.le_refl _) (by omega)) (h2 h0)
  | succ d ih =>
    intro c m hc hm h0
    obtain ⟨m, rfl⟩ : ∃ m', m = m' + 1 := ⟨m - 1, by omega⟩
    refine br_f (nI_ge (by omega) (by omega)) ⟨vp_in_nI (by omega) (by omega), ?_⟩
    obtain ⟨k1, k2⟩ := hk c (by omega)
    rw [nI_clamp (by omega), k1]
    by_cases z : K c = 2
    · rw [z]
      refine br_t rfl (nm_r (nI_1 _) ?_)
      by_cases y : nI (tr_lc K c) = v
      · exact br_t y (h1 c (by omega) z y.symm)
      · refine br_f y (nm_r (nI_1 c) ?_)
        have e := tr_lc_s z
        rw [← e]
        refine ih (c + 1) m (by omega) (by omega) (fun j hj kj => ?_)
        by_cases w : j = c
        · subst w; exact fun q => y q.symm
        · exact h0 j (by omega) kj
    · refine br_f (fun w => z ((nI_eq (b := 2) (by omega) (by decide)).mp w)) (nm_r (nI_1 c) ?_)
      have e := tr_lc_n z
      rw [← e]
      refine ih (c + 1) m (by omega) (by omega) (fun j hj kj => ?_)
      by_cases w : j = c
      · subst w; exact absurd kj z
      · exact h0 j (by omega) kj
theorem yy_lambdaNode {post : Int32 → Prop} {v : Int32} (hn : n ≤ 48) (hk : ∀ m, m < n → b_kinds m = nI (K m) ∧ K m ≤ 6) (h1 : ∀ m, m < n → K m = 2 → v = nI (tr_lc K m) → post (nI m)) (h2 : (∀ m, m < n → K m = 2 → v ≠ nI (tr_lc K m)) → post (-1)) : wpY_lambdaNode post (g_cellLimit, g_callLimit, g_closureLimit, (nI n), g_holes, g_reached, b_kinds, b_operands, b_parents, b_s, b_p, b_rec, b_sets, b_live, b_done, b_fn, b_val, b_entered, b_bind) v :=
  ⟨n + 1, yy_ln_l hn hk h1 h2 n 0 (n + 1) (by omega) (by omega) (fun j hj => absurd hj (Nat.not_lt_zero j))⟩
theorem yy_binder_l {post : Int32 → Prop} (A : re_A cs n h L K P N Lv S O B) (hk : ∀ m, m < n → b_kinds m = nI (K m) ∧ K m ≤ 6) (hpa : ∀ m, 0 < m → m < n → b_parents m = nI (P m)) {m t : Nat} (hm : m < n) (h1 : ∀ b, K b = 2 → N b = t → (S m).testBit (tr_lc K b) = true → post (nI b)) : ∀ f a x i, a < f → i + a < n → re_w K N S n m a x t → x < 2 ^ 31 → wY_binder_17 post g_cellLimit g_callLimit g_closureLimit (nI n) g_holes g_reached b_kinds b_operands b_parents b_s b_p b_rec b_sets b_live b_done b_fn b_val b_entered b_bind f (nI x) (nI i) (nI a) := by
  have hn : n ≤ 48 := by have := A.2.2.1; have := A.2.2.2.1; omega
  intro f
  induction f with
  | zero => intro a x i hf; exact absurd hf (Nat.not_lt_zero a)
  | succ f ih =>
    intro a x i hf hi w hx
    have ha := w.1
    obtain ⟨k1, k2⟩ := hk a ha
    refine br_f (nI_ge (by omega) (by omega)) (br_f (nI_pos (by omega)) ⟨vp_in_nI (by omega) (by omega), ?_⟩)
    rw [nI_clamp (by omega), k1]
    by_cases z : K a = 2
    · rw [z]
      refine br_t rfl ?_
      cases x with
      | zero =>
        obtain ⟨e1, e2⟩ := re_w_hit A w z
        exact nm_e (br_t rfl (h1 a z e1 e2))
      | succ x =>
        obtain ⟨a0, w'⟩ := re_w_s A w (Or.inl ⟨z, rfl⟩)
        refine nm_r (pk_m1 x) (br_f (nI_ne0 (by omega) (by omega)) (nm_r (nI_1 i) ⟨vp_in_nI (by omega) (by omega), nm_r (hpa a a0 ha) ?_⟩))
        have := (A.1 a a0 ha).1
        exact ih (P a) x (i + 1) (by omega) (by omega) w' (by omega)
    · obtain ⟨a0, w'⟩ := re_w_s A w (Or.inr ⟨z, rfl⟩)
      refine br_f (fun q => z ((nI_eq (b := 2) (by omega) (by decide)).mp q)) (nm_r (nI_1 i) ⟨vp_in_nI (by omega) (by omega), nm_r (hpa a a0 ha) ?_⟩)
      have := (A.1 a a0 ha).1
      exact ih (P a) x (i + 1) (by omega) (by omega) w' hx
theorem yy_binder {post : Int32 → Prop} (A : re_A cs n h L K P N Lv S O B) (hk : ∀ m, m < n → b_kinds m = nI (K m) ∧ K m ≤ 6) (hpa : ∀ m, 0 < m → m < n → b_parents m = nI (P m)) {m : Nat} (hm : m < n) (km : K m = 0) (ho : b_operands m = nI (O m)) (h1 : ∀ b, b < m → K b = 2 → tr_lc K b = B m → (S m).testBit (tr_lc K b) = true → post (nI b)) : wpY_binder post (g_cellLimit, g_callLimit, g_closureLimit, (nI n), g_holes, g_reached, b_kinds, b_operands, b_parents, b_s, b_p, b_rec, b_sets, b_live, b_done, b_fn, b_val, b_entered, b_bind) (nI m) := by
  have hn : n ≤ 48 := by have := A.2.2.1; have := A.2.2.2.1; omega
  obtain ⟨a1, b, b1, b2, b3, b4, b5⟩ := A.2.2.2.2.2.2.2.2.2.2 m hm km
  obtain ⟨m0, w⟩ := re_w_0 A hm a1
  have hN := (A.2.2.2.2.2.2.2.2.2.1 m hm).2.1
  have hp := (A.1 m m0 hm).1
  refine ⟨vp_in_nI (by omega) (by omega), ?_⟩
  rw [nI_clamp (by omega)]
  refine nm_r ho ⟨vp_in_nI (by omega) (by omega), nm_r (hpa m m0 hm) ⟨n, ?_⟩⟩
  refine yy_binder_l A hk hpa hm (t := N m - 1 - O m) (fun b kb e hs => ?_) n (P m) (O m) 0 (by omega) (by omega) w (by omega)
  obtain ⟨e1, e2⟩ := re_bind A hm km kb e hs
  exact h1 b e2 kb e1 hs
/-- counting LAMs -/
theorem yy_look_l {post : Int32 → Prop} {k3 z : Nat} (hn : n ≤ 48) (hz : z ≤ n) (hk : ∀ m, m < n → b_kinds m = nI (K m) ∧ K m ≤ 6) (h1 : ((nI k3 = 0 → post (nI (tr_lc K z))) ∧ (¬ nI k3 = 0 → ((nI k3 = 2 → post (nI (tr_lc K z))) ∧ (¬ nI k3 = 2 → post (-1)))))) : ∀ d c m, c + d = z → d < m → wY_look_81 post (nI k3) (nI z) g_cellLimit g_callLimit g_closureLimit (nI n) g_holes g_reached b_kinds b_operands b_parents b_s b_p b_rec b_sets b_live b_done b_fn b_val b_entered b_bind m (nI (tr_lc K c)) (nI c) := by
  intro d
  induction d with
  | zero =>
    intro c m hc hm
    obtain ⟨m, rfl⟩ : ∃ m', m = m' + 1 := ⟨m - 1, by omega⟩
    have e : c = z := by omega
    subst e
    exact br_t (nI_le (Nat.le_refl _) (by omega)) h1
  | succ d ih =>
    intro c m hc hm
    obtain ⟨m, rfl⟩ : ∃ m', m = m' + 1 := ⟨m - 1, by omega⟩
    refine br_f (nI_ge (by omega) (by omega)) ⟨vp_in_nI (by omega) (by omega), ?_⟩
    obtain ⟨k1, k2⟩ := hk c (by omega)
    rw [nI_clamp (by omega), k1]
    by_cases y : K c = 2
    · rw [y]
      refine br_t rfl (nm_r (nI_1 _) (nm_r (nI_1 c) ?_))
      have e := tr_lc_s y
      rw [← e]
      exact ih (c + 1) m (by omega) (by omega)
    · refine br_f (fun w => y ((nI_eq (b := 2) (by omega) (by decide)).mp w)) (nm_r (nI_1 c) ?_)
      have e := tr_lc_n y
      rw [← e]
      exact ih (c + 1) m (by omega) (by omega)
/-- look for every what -/
theorem yy_look {post : Int32 → Prop} (A : re_A cs n h L K P N Lv S O B) (hk : ∀ m, m < n → b_kinds m = nI (K m) ∧ K m ≤ 6) (hpa : ∀ m, 0 < m → m < n → b_parents m = nI (P m)) (hod : ∀ m, m < n → K m = 0 → b_operands m = nI (O m)) {m : Nat} {w : Int32} (hm : m < n) (e0 : w = 0 → post (b_kinds m)) (e1 : w = 1 → post (b_operands m)) (e2 : w = 2 → post (b_parents m)) (e3 : w = 3 → (K m = 0 → post (nI (B m))) ∧ (K m = 2 → post (nI (tr_lc K m))) ∧ (K m ≠ 0 → K m ≠ 2 → post (-1))) (e4 : (w < 0 ∨ 3 < w) → post (-1)) : wpY_look post (g_cellLimit, g_callLimit, g_closureLimit, (nI n), g_holes, g_reached, b_kinds, b_operands, b_parents, b_s, b_p, b_rec, b_sets, b_live, b_done, b_fn, b_val, b_entered, b_bind) (nI m) w := by
  have hn : n ≤ 48 := by have := A.2.2.1; have := A.2.2.2.1; omega
  obtain ⟨k1, k2⟩ := hk m hm
  unfold wpY_look
  refine yy_has hn (fun z => ?_) (fun j hj _ => ?_)
  · rcases z with z | z
    · exact absurd z (nI_pos (by omega))
    · exact absurd z (nI_ge hm (by omega))
  · refine br_f (by decide) (br_c (fun z => e4 (Or.inl z)) (fun z => br_c (fun y => ?_) (fun y => e4 (Or.inr (Int32.not_le.mp y)))))
    have fin : ∀ b : Nat, b ≤ n → (w = 3 → ((nI (K m) = 0 → post (nI (tr_lc K b))) ∧ (¬ nI (K m) = 0 → ((nI (K m) = 2 → post (nI (tr_lc K b))) ∧ (¬ nI (K m) = 2 → post (-1)))))) → wY_look_39 post (nI m) w (nI (K m)) (nI b) g_cellLimit g_callLimit g_closureLimit (nI n) g_holes g_reached b_kinds b_operands b_parents b_s b_p b_rec b_sets b_live b_done b_fn b_val b_entered b_bind := fun b hb h3 => by
      refine br_c (fun x => ?_) (fun x => ?_)
      · have e : w = 3 := Int32.le_antisymm y x
        exact ⟨b + 1, yy_look_l hn hb hk (h3 e) b 0 (b + 1) (by omega) (by omega)⟩
      · refine br_c (fun q => by rw [← k1]; exact e0 q) (fun q => ?_)
        refine br_c (fun r => ⟨vp_in_nI (by omega) (by omega), by rw [nI_clamp (by omega)]; exact e1 r⟩) (fun r => ⟨vp_in_nI (by omega) (by omega), ?_⟩)
        rw [nI_clamp (by omega)]
        refine e2 ?_
        have z' := Int32.not_lt.mp z
        obtain ⟨v, v1, rfl⟩ := nI_of (x := w) z
        have x1 : ¬ (3 ≤ v) := fun t => x (nI_le (a := 3) t v1)
        have q1 : v ≠ 0 := fun t => q (by rw [t]; rfl)
        have r1 : v ≠ 1 := fun t => r (by rw [t]; rfl)
        have : v = 2 := by omega
        rw [this]; rfl
    refine ⟨vp_in_nI (by omega) (by omega), ?_⟩
    rw [nI_clamp (by omega), k1]
    refine nm_e ?_
    by_cases kz : K m = 0
    · refine br_t (by rw [kz]; rfl) (yy_binder A hk hpa hm kz (hod m hm kz) (fun b b1 b2 b3 _ => fin b (by omega) (fun e => ?_)))
      rw [kz, b3]
      exact br_t rfl ((e3 e).1 kz)
    · refine br_f (fun q => kz ((nI_eq (b := 0) (by omega) (by decide)).mp q)) (fin m (by omega) (fun e => ?_))
      refine br_f (fun q => kz ((nI_eq (b := 0) (by omega) (by decide)).mp q)) ?_
      by_cases k2' : K m = 2
      · exact br_t (by rw [k2']; rfl) ((e3 e).2.1 k2')
      · exact br_f (fun q => k2' ((nI_eq (b := 2) (by omega) (by decide)).mp q)) ((e3 e).2.2 kz k2')
end
end
section
/-! ===== put: what it answers ===== -/
def pu_c (cs n h L k nu lu : Nat) (v : Int32) : Int32 := if k = 0 ∧ (v < 0 ∨ nI nu ≤ v) then -3 else if cs < n + h + tr_ar k then -4 else if (k = 2 ∧ nu = 5) ∨ (3 ≤ k ∧ lu = 5) then -5 else if k = 2 ∧ L = 16 then -6 else nI n
def pu_o (k : Nat) (v : Int32) : Int32 := if k ≤ 1 then v else 0
theorem pu_h {h a : Nat} (hh : 0 < h) (ha : a ≤ 3) (h48 : h ≤ 48) : nI h + (nI a - 1) = nI (h + a - 1) := by
  have e : nI h + (nI a - 1) = nI h + nI a - 1 := by grind
  rw [e, nI_add]
  exact pk_sub (b := 1) (by omega)
section
variable {g_cellLimit g_callLimit g_closureLimit g_nodes g_holes g_reached : Int32} {b_kinds b_operands b_parents b_s b_p b_rec b_sets b_live b_done b_fn b_val b_entered b_bind : Nat → Int32}
variable {cs n h L p : Nat} {K P N Lv S O B : Nat → Nat}
theorem yy_own_l {post : Int32 → SY → Prop} {x1 x2 x4 x5 : Int32} (A : re_A cs n h L K P N Lv S O B) (hk : ∀ m, m < n → b_kinds m = nI (K m) ∧ K m ≤ 6) (hpa : ∀ m, 0 < m → m < n → b_parents m = nI (P m)) (hp : re_p K P n p) (h1 : ∃ f, wY_put_88 post x1 x2 (xp_p n p) g_cellLimit g_callLimit g_closureLimit (nI n) g_holes g_reached b_kinds b_operands b_parents b_s b_p b_rec b_sets b_live b_done b_fn b_val b_entered b_bind f x4 x5 0 (xp_p n p)) : ∀ d c x3 m, c + d = n → d < m → (n = 0 → x3 = -1) → (0 < n → p < c → x3 = nI p) → wY_put_33 post x1 x2 x4 x5 g_cellLimit g_callLimit g_closureLimit (nI n) g_holes g_reached b_kinds b_operands b_parents b_s b_p b_rec b_sets b_live b_done b_fn b_val b_entered b_bind m x3 (nI c) := by
  have hn : n ≤ 48 := by have := A.2.2.1; have := A.2.2.2.1; omega
  intro d
  induction d with
  | zero =>
    intro c x3 m hc hm h0 h2
    obtain ⟨m, rfl⟩ : ∃ m', m = m' + 1 := ⟨m - 1, by omega⟩
    have e : c = n := by omega
    subst e
    have e3 : x3 = xp_p c p := by
      by_cases z : c = 0
      · subst z; exact h0 rfl
      · rw [xp_p1 p (by omega)]
        exact h2 (by omega) (hp (by omega)).1
    subst e3
    exact br_t (nI_le (Nat.le_refl _) (by omega)) h1
  | succ d ih =>
    intro c x3 m hc hm h0 h2
    obtain ⟨m, rfl⟩ : ∃ m', m = m' + 1 := ⟨m - 1, by omega⟩
    obtain ⟨p1, p2, p3⟩ := hp (by omega)
    obtain ⟨k1, k2⟩ := hk c (by omega)
    have a3 := tr_ar_3' (K c)
    refine br_f (nI_ge (by omega) (by omega)) ⟨vp_in_nI (by omega) (by omega), ?_⟩
    rw [nI_clamp (by omega), k1]
    refine yy_arity k2 ?_
    by_cases z : tr_ar (K c) = 0
    · rw [z]
      refine nm_e (br_t (by decide) (nm_r (nI_1 c) ?_))
      refine ih (c + 1) x3 m (by omega) (by omega) (fun w => by omega) (fun _ w => ?_)
      by_cases y : p = c
      · subst y; omega
      · exact h2 (by omega) (by omega)
    · refine nm_r (show nI (tr_ar (K c)) - 1 = nI (tr_ar (K c) - 1) from pk_sub (b := 1) (by omega)) (br_f (nI_pos (by omega)) ?_)
      refine yy_child hn (by omega) hpa A.1 (by omega) (fun q q0 q1 q2 q3 => ?_) (fun w => ?_)
      · refine br_t (nI_pos' (by omega)) (nm_r (nI_1 c) ?_)
        refine ih (c + 1) x3 m (by omega) (by omega) (fun w => by omega) (fun _ w => ?_)
        by_cases y : p = c
        · subst y
          have e1 := tr_cnt_s (P := P) q0 q2
          have e2 := tr_cnt_le (P := P) (p := p) (show q + 1 ≤ n by omega)
          omega
        · exact h2 (by omega) (by omega)
      · refine br_f (by decide) (nm_r (nI_1 c) ?_)
        refine ih (c + 1) (nI c) m (by omega) (by omega) (fun w => by omega) (fun _ y => ?_)
        by_cases e : p = c
        · rw [e]
        · have := p3 c (by omega) (by omega)
          omega
/-- up from the owner: nest and level -/
theorem yy_up_l {post : Int32 → SY → Prop} {x1 x2 x3 : Int32} {nu lu : Nat} (A : re_A cs n h L K P N Lv S O B) (hk : ∀ m, m < n → b_kinds m = nI (K m) ∧ K m ≤ 6) (hpa : ∀ m, 0 < m → m < n → b_parents m = nI (P m)) (hp0 : 0 < n → b_parents 0 = -1) (h1 : wY_put_142 post x1 x2 x3 (nI nu) (nI lu) g_cellLimit g_callLimit g_closureLimit (nI n) g_holes g_reached b_kinds b_operands b_parents b_s b_p b_rec b_sets b_live b_done b_fn b_val b_entered b_bind) (hnu : nu ≤ 5) (hlu : lu ≤ 5) : ∀ f a ns l i, a + 1 < f → i + a < n → a < n → ns + re_nu K N n a = nu → (ns = 0 → l + re_lu K Lv n a = lu) → (0 < ns → l = lu) → wY_put_88 post x1 x2 x3 g_cellLimit g_callLimit g_closureLimit (nI n) g_holes g_reached b_kinds b_operands b_parents b_s b_p b_rec b_sets b_live b_done b_fn b_val b_entered b_bind f (nI ns) (nI l) (nI i) (nI a) := by
  have hn : n ≤ 48 := by have := A.2.2.1; have := A.2.2.2.1; omega
  obtain ⟨Ok, _, _, _, _, _, Nn, _, V, _, _⟩ := A
  intro f
  induction f with
  | zero => intro a ns l i hf; omega
  | succ f ih =>
    intro a ns l i hf hi ha e1 e2 e3
    obtain ⟨k1, k2⟩ := hk a ha
    have n0 : ¬ n = 0 := by omega
    unfold re_nu at e1
    unfold re_lu at e2
    rw [if_neg n0] at e1 e2
    have fin : ∀ (ns' l' : Nat), ns' + N a = nu → (ns' = 0 → l' + Lv a = lu) → (0 < ns' → l' = lu) → wY_put_88 post x1 x2 x3 g_cellLimit g_callLimit g_closureLimit (nI n) g_holes g_reached b_kinds b_operands b_parents b_s b_p b_rec b_sets b_live b_done b_fn b_val b_entered b_bind f (nI ns') (nI l') (nI (i + 1)) (b_parents a) := fun ns' l' g1 g2 g3 => by
      by_cases z : a = 0
      · subst z
        have hN0 := (Nn 0 ha).1 rfl
        have hV0 := (V 0 ha).2.1 rfl
        obtain ⟨f, rfl⟩ : ∃ f', f = f' + 1 := ⟨f - 1, by omega⟩
        rw [hp0 ha]
        have en : ns' = nu := by omega
        have el : l' = lu := by
          rcases Nat.eq_zero_or_pos ns' with y | y
          · have := g2 y; omega
          · exact g3 y
        subst en el
        by_cases y : n ≤ i + 1
        · exact br_t (nI_le y (by omega)) h1
        · exact br_f (nI_ge (by omega) (by omega)) (br_t (by decide) h1)
      · have z' : 0 < a := by omega
        have hP := (Ok a z' ha).1
        have hNa := (Nn a ha).2 z'
        have hVa := (V a ha).2.2 z'
        rw [hpa a z' ha]
        refine ih (P a) ns' l' (i + 1) (by omega) (by omega) (by omega) ?_ (fun y => ?_) g3
        · unfold re_nu
          rw [if_neg n0]
          by_cases k : K (P a) = 2
          · rw [if_pos k] at hNa ⊢; omega
          · rw [if_neg k] at hNa ⊢; omega
        · unfold re_lu
          rw [if_neg n0]
          have := g2 y
          by_cases k : K (P a) = 2
          · rw [if_pos k] at hVa ⊢; omega
          · rw [if_neg k] at hVa ⊢; omega
    refine br_f (nI_ge (by omega) (by omega)) (br_f (nI_pos (by omega)) ⟨vp_in_nI (by omega) (by omega), ?_⟩)
    rw [nI_clamp (by omega), k1]
    by_cases z : K a = 2
    · rw [if_pos z] at e1 e2
      rw [z]
      refine br_t rfl (nm_r (nI_1 ns) (nm_r (nI_1 i) ⟨vp_in_nI (by omega) (by omega), nm_e ?_⟩))
      refine fin (ns + 1) l (by omega) (fun y => by omega) (fun _ => ?_)
      rcases Nat.eq_zero_or_pos ns with y | y
      · have := e2 y; omega
      · exact e3 y
    · rw [if_neg z] at e1 e2
      refine br_f (fun q => z ((nI_eq (b := 2) (by omega) (by decide)).mp q)) ?_
      rcases Nat.eq_zero_or_pos ns with y | y
      · subst y
        refine br_t rfl (nm_r (nI_1 l) (nm_r (nI_1 i) ⟨vp_in_nI (by omega) (by omega), nm_e ?_⟩))
        exact fin 0 (l + 1) e1 (fun _ => by have := e2 rfl; omega) (fun w => by omega)
      · refine br_f (nI_ne0 y (by omega)) (nm_r (nI_1 i) ⟨vp_in_nI (by omega) (by omega), nm_e ?_⟩)
        exact fin ns l e1 (fun w => by omega) (fun _ => e3 y)
theorem yy_put_l {post : Int32 → SY → Prop} {k : Nat} {v : Int32} (A : re_A cs n h L K P N Lv S O B) (hk6 : k ≤ 6) (hh : 0 < h) (hk : ∀ m, m < n → b_kinds m = nI (K m) ∧ K m ≤ 6) {nu lu : Nat} (hnu : nu ≤ 5) (hlu : lu ≤ 5)
    (h1 : ∀ r, r = pu_c cs n h L k nu lu v → r < 0 → post r ((nI cs), g_callLimit, g_closureLimit, (nI n), (nI h), g_reached, b_kinds, b_operands, b_parents, b_s, b_p, b_rec, b_sets, b_live, b_done, b_fn, b_val, b_entered, b_bind))
    (h2 : pu_c cs n h L k nu lu v = nI n → post (nI n) ((nI cs), g_callLimit, g_closureLimit, (nI (n + 1)), (nI (h + tr_ar k - 1)), g_reached, (upd b_kinds n (nI k)), (upd b_operands n (pu_o k v)), (upd b_parents n (xp_p n p)), b_s, b_p, b_rec, b_sets, b_live, b_done, b_fn, b_val, b_entered, b_bind)) :
    wY_put_142 post (nI k) v (xp_p n p) (nI nu) (nI lu) (nI cs) g_callLimit g_closureLimit (nI n) (nI h) g_reached b_kinds b_operands b_parents b_s b_p b_rec b_sets b_live b_done b_fn b_val b_entered b_bind := by
  have hb := A.2.2.1
  have hcs := A.2.2.2.1
  have hL := A.2.2.2.2.1
  have hL16 := A.2.2.2.2.2.1
  have a3 := tr_ar_3' k
  have lit : ∀ {b : Nat}, b < 2 ^ 31 → nI k = nI b → k = b := fun hb w => (nI_eq (by omega) hb).mp w
  have n159 : ¬ (k = 0 ∧ (v < 0 ∨ nI nu ≤ v)) → wY_put_159 post (nI k) v (xp_p n p) (nI nu) (nI lu) (nI cs) g_callLimit g_closureLimit (nI n) (nI h) g_reached b_kinds b_operands b_parents b_s b_p b_rec b_sets b_live b_done b_fn b_val b_entered b_bind := fun c1 => by
    unfold wY_put_159
    refine yy_arity hk6 ?_
    rw [nI_add, nI_add]
    by_cases c2 : cs < n + h + tr_ar k
    · refine br_f (nI_ge c2 (by omega)) (h1 (-4) ?_ (by decide))
      unfold pu_c
      rw [if_neg c1, if_pos c2]
    refine br_t (nI_le (by omega) (by omega)) ?_
    have n195 : ¬ (3 ≤ k ∧ lu = 5) → wY_put_195 post (nI k) v (xp_p n p) (nI nu) (nI cs) g_callLimit g_closureLimit (nI n) (nI h) g_reached b_kinds b_operands b_parents b_s b_p b_rec b_sets b_live b_done b_fn b_val b_entered b_bind := fun c3 => by
      have n226 : ¬ (k = 2 ∧ nu = 5) → ¬ (k = 2 ∧ L = 16) → wY_put_226 post (nI k) v (xp_p n p) (nI cs) g_callLimit g_closureLimit (nI n) (nI h) g_reached b_kinds b_operands b_parents b_s b_p b_rec b_sets b_live b_done b_fn b_val b_entered b_bind := fun c4 c5 => by
        have e : pu_c cs n h L k nu lu v = nI n := by
          unfold pu_c
          rw [if_neg c1, if_neg c2, if_neg (by rintro (z | z); exact c4 z; exact c3 z), if_neg c5]
        have hi : vp_in (nI n) 48 := vp_in_nI (by omega) (by omega)
        have hc := nI_clamp (n := n) (by omega)
        refine ⟨hi, nm_e ⟨hi, nm_e ?_⟩⟩
        rw [hc]
        have last : ∀ w : Int32, w = pu_o k v → wY_put_264 post (nI k) w (nI n) (nI cs) g_callLimit g_closureLimit (nI n) (nI h) g_reached (upd b_kinds n (nI k)) b_operands (upd b_parents n (xp_p n p)) b_s b_p b_rec b_sets b_live b_done b_fn b_val b_entered b_bind := fun w hw => by
          refine ⟨hi, nm_e ?_⟩
          rw [hc, hw]
          refine yy_arity hk6 (nm_r (pu_h hh a3 (by omega)) (nm_r (nI_1 n) ?_))
          exact h2 e
        by_cases y : k ≤ 1
        · exact br_f (nI_nlt (a := 1) (by omega) (by decide)) (last v (if_pos y).symm)
        · exact br_t (nI_lt (a := 1) (by omega) (by omega)) (last 0 (if_neg y).symm)
      by_cases y : k = 2
      · subst y
        refine br_t rfl ?_
        by_cases x : nu = 5
        · subst x
          refine br_f (by decide) (h1 (-5) ?_ (by decide))
          unfold pu_c
          rw [if_neg c1, if_neg c2, if_pos (Or.inl ⟨rfl, rfl⟩)]
        · refine br_t (nI_lt (b := 5) (by omega) (by decide)) (br_t rfl ?_)
          refine yy_lambdaNode (by omega) hk (fun m hm km e => ?_) (fun w => ?_)
          · refine br_f (nI_pos (by omega)) (h1 (-6) ?_ (by decide))
            have lm := tr_lc_lt hm km
            have e15 : 15 = tr_lc K m := (nI_eq (a := 15) (by decide) (by omega)).mp e
            unfold pu_c
            rw [if_neg c1, if_neg c2, if_neg (by rintro (z | z); exact x z.2; omega), if_pos ⟨rfl, by omega⟩]
          · refine br_t (by decide) (n226 (fun z => x z.2) (fun z => ?_))
            obtain ⟨m, m1, m2, m3⟩ := tr_lc_find (K := K) (l := 15) n (by omega)
            exact w m m1 m2 (by rw [m3]; rfl)
      · exact br_f (fun w => y (lit (b := 2) (by decide) w)) (br_f (fun w => y (lit (b := 2) (by decide) w)) (n226 (fun z => y z.1) (fun z => y z.1)))
    by_cases y : 3 ≤ k
    · refine br_f (nI_nlt (b := 3) y (by omega)) ?_
      by_cases x : lu = 5
      · subst x
        refine br_t (by decide) (h1 (-5) ?_ (by decide))
        unfold pu_c
        rw [if_neg c1, if_neg c2, if_pos (Or.inr ⟨y, rfl⟩)]
      · exact br_f (nI_ge (b := 5) (by omega) (by decide)) (n195 (fun z => x z.2))
    · exact br_t (nI_lt (b := 3) (by omega) (by decide)) (n195 (fun z => y z.1))
  by_cases y : k = 0
  · subst y
    refine br_t rfl (br_c (fun z => ?_) (fun z => ?_))
    · refine h1 (-3) ?_ (by decide)
      unfold pu_c
      rw [if_pos ⟨rfl, Or.inl z⟩]
    · refine br_c (fun x => n159 ?_) (fun x => ?_)
      · rintro ⟨_, w | w⟩
        · exact z w
        · exact absurd x (Int32.not_lt.mpr w)
      · refine h1 (-3) ?_ (by decide)
        unfold pu_c
        rw [if_pos ⟨rfl, Or.inr (Int32.not_lt.mp x)⟩]
  · exact br_f (fun w => y (lit (b := 0) (by decide) w)) (n159 (fun z => y z.1))
theorem yy_put {post : Int32 → SY → Prop} {k : Nat} {v : Int32} (A : re_A cs n h L K P N Lv S O B) (hk6 : k ≤ 6) (hh : 0 < h) (hk : ∀ m, m < n → b_kinds m = nI (K m) ∧ K m ≤ 6) (hpa : ∀ m, 0 < m → m < n → b_parents m = nI (P m)) (hp0 : 0 < n → b_parents 0 = -1) (hp : re_p K P n p)
    (h1 : ∀ r, r = pu_c cs n h L k (re_nu K N n p) (re_lu K Lv n p) v → r < 0 → post r ((nI cs), g_callLimit, g_closureLimit, (nI n), (nI h), g_reached, b_kinds, b_operands, b_parents, b_s, b_p, b_rec, b_sets, b_live, b_done, b_fn, b_val, b_entered, b_bind))
    (h2 : pu_c cs n h L k (re_nu K N n p) (re_lu K Lv n p) v = nI n → post (nI n) ((nI cs), g_callLimit, g_closureLimit, (nI (n + 1)), (nI (h + tr_ar k - 1)), g_reached, (upd b_kinds n (nI k)), (upd b_operands n (pu_o k v)), (upd b_parents n (xp_p n p)), b_s, b_p, b_rec, b_sets, b_live, b_done, b_fn, b_val, b_entered, b_bind)) :
    wpY_put post ((nI cs), g_callLimit, g_closureLimit, (nI n), (nI h), g_reached, b_kinds, b_operands, b_parents, b_s, b_p, b_rec, b_sets, b_live, b_done, b_fn, b_val, b_entered, b_bind) (nI k) v := by
  have hb := A.2.2.1
  have hcs := A.2.2.2.1
  obtain ⟨u1, u2, u3⟩ := re_nu_5 A hp
  have hl := yy_put_l (p := p) (v := v) A hk6 hh hk u1 u2 h1 h2
  refine br_f (nI_pos (by omega)) (br_t (nI_le (b := 6) hk6 (by decide)) (br_f (nI_ne0 hh (by omega)) ⟨n + 1, ?_⟩))
  refine yy_own_l A hk hpa hp ?_ n 0 (-1) (n + 1) (by omega) (by omega) (fun _ => rfl) (fun _ w => absurd w (Nat.not_lt_zero p))
  by_cases z : n = 0
  · subst z
    exact ⟨1, br_t (by decide) hl⟩
  · have z' : 0 < n := by omega
    have p1 := (hp z').1
    rw [xp_p1 p z'] at hl ⊢
    exact ⟨p + 2, yy_up_l A hk hpa hp0 hl u1 u2 (p + 2) p 0 0 0 (by omega) (by omega) p1 (by omega) (fun _ => by omega) (fun w => by omega)⟩
end
end
section
/-! ===== the class: put, the whole of it ===== -/
section
variable {f_cellLimit f_callLimit f_closureLimit f_nodes f_holes f_lambdas f_stageReached f_grown f_codeLength f_runningEngine f_ending f_callCount f_closureCount f_frame f_waitingCount : Int32} {a_kinds a_operands a_parents a_places a_children a_levels a_nests a_scopes a_nodeLambdas a_lambdaNodes a_liveNodes a_nodeFlows a_paramFlows a_codeOps a_codeNodes a_codeTargets a_branchSpots a_entries a_frameReturns a_closureLambdas a_records a_calledSets : Nat → Int32} {a_closureValues a_frameValues a_waiting : Nat → Int64}
variable {cs n h L p : Nat} {K P N Lv S O B : Nat → Nat}
theorem xx_put {post : Int32 → SX → Prop} {k : Nat} {v : Int32} (A : re_A cs n h L K P N Lv S O B) (hk6 : k ≤ 6) (hh : 0 < h) (hp : re_p K P n p) (X : re_X n K P N Lv S O B a_kinds a_operands a_parents a_places a_children a_levels a_nests a_scopes a_nodeLambdas a_lambdaNodes)
    (h1 : ∀ r, r = pu_c cs n h L k (re_nu K N n p) (re_lu K Lv n p) v → r < 0 → post r ((nI cs), f_callLimit, f_closureLimit, (nI n), (nI h), (nI L), f_stageReached, f_grown, f_codeLength, f_runningEngine, f_ending, f_callCount, f_closureCount, f_frame, f_waitingCount, a_kinds, a_operands, a_parents, a_places, a_children, a_levels, a_nests, a_scopes, a_nodeLambdas, a_lambdaNodes, a_liveNodes, a_nodeFlows, a_paramFlows, a_codeOps, a_codeNodes, a_codeTargets, a_branchSpots, a_entries, a_frameReturns, a_frameValues, a_closureLambdas, a_closureValues, a_waiting, a_records, a_calledSets))
    (h2 : pu_c cs n h L k (re_nu K N n p) (re_lu K Lv n p) v = nI n → ∀ o l pl' ch' le' ne' sc' nl' ln', re_A cs (n + 1) (h + tr_ar k - 1) (if k = 2 then L + 1 else L) (tr_put K n k) (tr_put P n p) (tr_put N n (re_nu K N n p)) (tr_put Lv n (re_lu K Lv n p)) (tr_put S n (re_su K S n p)) (tr_put O n o) (tr_put B n l) → re_X (n + 1) (tr_put K n k) (tr_put P n p) (tr_put N n (re_nu K N n p)) (tr_put Lv n (re_lu K Lv n p)) (tr_put S n (re_su K S n p)) (tr_put O n o) (tr_put B n l) (upd a_kinds n (nI k)) (upd a_operands n (pu_o k v)) (upd a_parents n (xp_p n p)) pl' ch' le' ne' sc' nl' ln' →
      post (nI n) ((nI cs), f_callLimit, f_closureLimit, (nI (n + 1)), (nI (h + tr_ar k - 1)), (nI (if k = 2 then L + 1 else L)), f_stageReached, f_grown, f_codeLength, f_runningEngine, f_ending, f_callCount, f_closureCount, f_frame, f_waitingCount, (upd a_kinds n (nI k)), (upd a_operands n (pu_o k v)), (upd a_parents n (xp_p n p)), pl', ch', le', ne', sc', nl', ln', a_liveNodes, a_nodeFlows, a_paramFlows, a_codeOps, a_codeNodes, a_codeTargets, a_branchSpots, a_entries, a_frameReturns, a_frameValues, a_closureLambdas, a_closureValues, a_waiting, a_records, a_calledSets)) :
    wpX_put post ((nI cs), f_callLimit, f_closureLimit, (nI n), (nI h), (nI L), f_stageReached, f_grown, f_codeLength, f_runningEngine, f_ending, f_callCount, f_closureCount, f_frame, f_waitingCount, a_kinds, a_operands, a_parents, a_places, a_children, a_levels, a_nests, a_scopes, a_nodeLambdas, a_lambdaNodes, a_liveNodes, a_nodeFlows, a_paramFlows, a_codeOps, a_codeNodes, a_codeTargets, a_branchSpots, a_entries, a_frameReturns, a_frameValues, a_closureLambdas, a_closureValues, a_waiting, a_records, a_calledSets) (nI k) v := by
  have hb := A.2.2.1
  have hcs := A.2.2.2.1
  have hL := A.2.2.2.2.1
  have hL16 := A.2.2.2.2.2.1
  have D := A.2.2.2.2.2.2.2.2.2.1
  have a3 := tr_ar_3' k
  have hi : vp_in (nI n) 48 := vp_in_nI (by omega) (by omega)
  have hc := nI_clamp (n := n) (by omega)
  have lit : ∀ {b : Nat}, b < 2 ^ 31 → nI k = nI b → k = b := fun hb w => (nI_eq (by omega) hb).mp w
  obtain ⟨x1, x2, x3, x4, x5, x6, x7, x8, x9⟩ := id X
  have pn : 0 < n → p < n := fun z => (hp z).1
  have f1 : 0 < n → a_kinds p = nI (K p) ∧ K p ≤ 6 := fun z => ⟨x1 p (pn z), (D p (pn z)).1⟩
  have f4 : 0 < n → K p = 2 → a_nodeLambdas p = nI (tr_lc K p) ∧ tr_lc K p < 16 := fun z k => ⟨(x8 p (pn z)).2.1 k, by have := tr_lc_lt (pn z) k; omega⟩
  have n47 : ∀ (y4 : Int32) (o l : Nat), ¬ (k = 0 ∧ (v < 0 ∨ nI (re_nu K N n p) ≤ v)) → (k = 0 → y4 = nI l ∧ v = nI o ∧ o < re_nu K N n p ∧ ∃ b, b < n ∧ K b = 2 ∧ (re_su K S n p).testBit (tr_lc K b) = true ∧ l = tr_lc K b ∧ N b + o + 1 = re_nu K N n p) → wX_put_47 post (nI k) v (xp_p n p) y4 (nI cs) f_callLimit f_closureLimit (nI n) (nI h) (nI L) f_stageReached f_grown f_codeLength f_runningEngine f_ending f_callCount f_closureCount f_frame f_waitingCount a_kinds a_operands a_parents a_places a_children a_levels a_nests a_scopes a_nodeLambdas a_lambdaNodes a_liveNodes a_nodeFlows a_paramFlows a_codeOps a_codeNodes a_codeTargets a_branchSpots a_entries a_frameReturns a_frameValues a_closureLambdas a_closureValues a_waiting a_records a_calledSets := fun y4 o l c1 hv => by
    unfold wX_put_47
    refine xx_childrenOf hk6 ?_
    rw [nI_add, nI_add]
    by_cases c2 : cs < n + h + tr_ar k
    · refine br_f (nI_ge c2 (by omega)) (h1 (-4) ?_ (by decide))
      unfold pu_c
      rw [if_neg c1, if_pos c2]
    refine br_t (nI_le (by omega) (by omega)) ?_
    refine xx_isTooDeep hk6 A hp f1 (fun z => (x7 p (pn z)).2.1) (fun z => (x7 p (pn z)).1) (fun d1 d2 => br_t rfl ?_) (fun d => br_f (by decide) (h1 (-5) ?_ (by decide)))
    · have c3 : ¬ ((k = 2 ∧ re_nu K N n p = 5) ∨ (3 ≤ k ∧ re_lu K Lv n p = 5)) := by
        rintro (z | z)
        · have := d1 z.1; omega
        · have := d2 z.1; omega
      have n100 : ¬ (k = 2 ∧ L = 16) → wX_put_100 post (nI k) v (xp_p n p) y4 (nI cs) f_callLimit f_closureLimit (nI n) (nI h) (nI L) f_stageReached f_grown f_codeLength f_runningEngine f_ending f_callCount f_closureCount f_frame f_waitingCount a_kinds a_operands a_parents a_places a_children a_levels a_nests a_scopes a_nodeLambdas a_lambdaNodes a_liveNodes a_nodeFlows a_paramFlows a_codeOps a_codeNodes a_codeTargets a_branchSpots a_entries a_frameReturns a_frameValues a_closureLambdas a_closureValues a_waiting a_records a_calledSets := fun c4 => by
        have e : pu_c cs n h L k (re_nu K N n p) (re_lu K Lv n p) v = nI n := by
          unfold pu_c
          rw [if_neg c1, if_neg c2, if_neg c3, if_neg c4]
        have A' := re_put (o := o) (l := l) A hh hk6 (by omega) hp (fun z => ⟨(hv z).2.2.1, (hv z).2.2.2⟩) (fun z => ⟨d1 z, by have : L ≠ 16 := fun w => c4 ⟨z, w⟩; omega⟩) d2
        unfold wX_put_100
        refine xx_placeUnder A hh hp X (fun ch' C' => ⟨hi, nm_e ?_⟩)
        rw [hc]
        have n137 : wX_put_137 post (nI k) y4 (pu_o k v) (nI n) (nI cs) f_callLimit f_closureLimit (nI n) (nI h) (nI L) f_stageReached f_grown f_codeLength f_runningEngine f_ending f_callCount f_closureCount f_frame f_waitingCount (upd a_kinds n (nI k)) a_operands (upd a_parents n (xp_p n p)) (upd a_places n (if n = 0 then 0 else nI (tr_cnt P p n))) ch' (upd a_levels n (nI (re_lu K Lv n p))) (upd a_nests n (nI (re_nu K N n p))) (upd a_scopes n (nI (re_su K S n p))) a_nodeLambdas a_lambdaNodes a_liveNodes a_nodeFlows a_paramFlows a_codeOps a_codeNodes a_codeTargets a_branchSpots a_entries a_frameReturns a_frameValues a_closureLambdas a_closureValues a_waiting a_records a_calledSets := by
          have X' : ∀ (nl1 : Int32) (ln' : Nat → Int32), (k = 0 → nl1 = nI l) → (k = 2 → nl1 = nI (tr_lc K n)) → (k ≠ 0 → k ≠ 2 → nl1 = -1) → (k = 2 → ln' = upd a_lambdaNodes (tr_lc K n) (nI n)) → (k ≠ 2 → ln' = a_lambdaNodes) → _ := fun nl1 ln' e5 e6 e7 e8 e9 =>
            re_X_put (k := k) (o := o) (l := l) (nu := re_nu K N n p) (lu := re_lu K Lv n p) (su := re_su K S n p) (od1 := pu_o k v) (pa1 := xp_p n p) (pl1 := if n = 0 then 0 else nI (tr_cnt P p n)) (nl1 := nl1) (ln' := ln') A.1 hp X C' (fun z => by rw [z]; exact (hv z).2.1) (fun z => by rw [z]; rfl) (fun z => xp_p1 p z) (fun z => if_neg (by omega)) e5 e6 e7 e8 e9
          have n198 : ∀ (nl' ln' : Nat → Int32) (L' : Nat), L' = (if k = 2 then L + 1 else L) → re_X (n + 1) (tr_put K n k) (tr_put P n p) (tr_put N n (re_nu K N n p)) (tr_put Lv n (re_lu K Lv n p)) (tr_put S n (re_su K S n p)) (tr_put O n o) (tr_put B n l) (upd a_kinds n (nI k)) (upd a_operands n (pu_o k v)) (upd a_parents n (xp_p n p)) (upd a_places n (if n = 0 then 0 else nI (tr_cnt P p n))) ch' (upd a_levels n (nI (re_lu K Lv n p))) (upd a_nests n (nI (re_nu K N n p))) (upd a_scopes n (nI (re_su K S n p))) nl' ln' → wX_put_198 post (nI k) (nI cs) f_callLimit f_closureLimit (nI n) (nI h) (nI L') f_stageReached f_grown f_codeLength f_runningEngine f_ending f_callCount f_closureCount f_frame f_waitingCount (upd a_kinds n (nI k)) (upd a_operands n (pu_o k v)) (upd a_parents n (xp_p n p)) (upd a_places n (if n = 0 then 0 else nI (tr_cnt P p n))) ch' (upd a_levels n (nI (re_lu K Lv n p))) (upd a_nests n (nI (re_nu K N n p))) (upd a_scopes n (nI (re_su K S n p))) nl' ln' a_liveNodes a_nodeFlows a_paramFlows a_codeOps a_codeNodes a_codeTargets a_branchSpots a_entries a_frameReturns a_frameValues a_closureLambdas a_closureValues a_waiting a_records a_calledSets := fun nl' ln' L' eL XX => by
            subst eL
            unfold wX_put_198
            refine xx_childrenOf hk6 (nm_r (pu_h hh a3 (by omega)) (nm_r (nI_1 n) ?_))
            rw [nI_pred]
            exact h2 e o l _ _ _ _ _ _ _ A' XX
          refine ⟨hi, nm_e ?_⟩
          rw [hc]
          by_cases z0 : k = 0
          · refine br_t (by rw [z0]; rfl) ⟨hi, nm_e (br_f (fun w => by have := lit (b := 2) (by decide) w; omega) ?_)⟩
            rw [hc]
            refine n198 _ _ L (if_neg (by omega)).symm (X' y4 a_lambdaNodes (fun z => (hv z).1) (fun z => by omega) (fun z _ => absurd z0 z) (fun z => by omega) (fun _ => rfl))
          · refine br_f (fun w => z0 (lit (b := 0) (by decide) w)) ⟨hi, nm_e ?_⟩
            rw [hc]
            by_cases z2 : k = 2
            · refine br_t (by rw [z2]; rfl) ⟨hi, nm_e ⟨vp_in_nI (by omega) (by omega), nm_e (nm_r (nI_1 L) ?_)⟩⟩
              rw [re_uu, nI_clamp (by omega)]
              exact n198 _ _ (L + 1) (if_pos z2).symm (X' (nI L) _ (fun z => absurd z z0) (fun _ => by rw [hL]) (fun _ z => absurd z2 z) (fun _ => by rw [hL]) (fun z => absurd z2 z))
            · refine br_f (fun w => z2 (lit (b := 2) (by decide) w)) ?_
              exact n198 _ _ L (if_neg z2).symm (X' (-1) a_lambdaNodes (fun z => absurd z z0) (fun z => absurd z z2) (fun _ _ => rfl) (fun z => absurd z z2) (fun _ => rfl))
        by_cases z0 : k = 0
        · refine br_t (by rw [z0]; rfl) ?_
          have : pu_o k v = v := if_pos (by omega)
          rw [this] at n137
          exact n137
        · refine br_f (fun w => z0 (lit (b := 0) (by decide) w)) ?_
          by_cases z1 : k = 1
          · refine br_t (by rw [z1]; rfl) ?_
            have : pu_o k v = v := if_pos (by omega)
            rw [this] at n137
            exact n137
          · refine br_f (fun w => z1 (lit (b := 1) (by decide) w)) ?_
            have : pu_o k v = 0 := if_neg (by omega)
            rw [this] at n137
            exact n137
      by_cases z : k = 2
      · refine br_t (by rw [z]; rfl) ?_
        by_cases y : L = 16
        · refine br_t (by rw [y]; rfl) (h1 (-6) ?_ (by decide))
          unfold pu_c
          rw [if_neg c1, if_neg c2, if_neg c3, if_pos ⟨z, y⟩]
        · exact br_f (fun w => y ((nI_eq (b := 16) (by omega) (by decide)).mp w)) (n100 (fun w => y w.2))
      · exact br_f (fun w => z (lit (b := 2) (by decide) w)) (n100 (fun w => z w.1))
    · unfold pu_c
      rw [if_neg c1, if_neg c2, if_pos d]
  refine br_f (nI_pos (by omega)) (br_t (nI_le (b := 6) hk6 (by decide)) (br_f (nI_ne0 hh (by omega)) ?_))
  refine xx_parent A.1 (by omega) (fun m hm => ⟨x1 m hm, (D m hm).1⟩) x6 hp ?_
  refine xx_binderAt A hp f1 (fun z => (x7 p (pn z)).2.2) f4 (fun o b o1 o2 o3 b1 b2 b3 b4 => ?_) (fun hu => ?_)
  · by_cases z : k = 0
    · have lb := tr_lc_lt b1 b2
      refine br_t (by rw [z]; rfl) (br_t (nI_pos' (by omega)) (n47 _ o (tr_lc K b) ?_ (fun _ => ⟨rfl, o2, o3, b, b1, b2, b3, rfl, b4⟩)))
      rintro ⟨_, w | w⟩
      · rw [o2] at w; exact nI_pos o1 w
      · rw [o2] at w
        have := (re_nu_5 A hp).1
        exact nI_ge o3 (by omega) w
    · exact br_f (fun w => z (lit (b := 0) (by decide) w)) (n47 _ 0 0 (fun w => z w.1) (fun w => absurd w z))
  · by_cases z : k = 0
    · refine br_t (by rw [z]; rfl) (br_f (by decide) (h1 (-3) ?_ (by decide)))
      unfold pu_c
      rw [if_pos ⟨z, hu⟩]
    · exact br_f (fun w => z (lit (b := 0) (by decide) w)) (n47 _ 0 0 (fun w => z w.1) (fun w => absurd w z))
end
end
section
/-! ===== the relation ===== -/
def re_sol (K P B : Nat → Nat) (n L : Nat) : so_S := so_sol K (tr_e P n) B (tr_lc K) (re_bd K n) L n
def re_I (cs cl cm n h L st cn : Nat) (K P N Lv S O B oc nd tg en : Nat → Nat) (a_kinds a_operands a_parents a_places a_children a_levels a_nests a_scopes a_nodeLambdas a_lambdaNodes a_liveNodes a_nodeFlows a_paramFlows a_entries b_s b_p b_live : Nat → Int32) : Prop :=
  re_A cs n h L K P N Lv S O B ∧ re_X n K P N Lv S O B a_kinds a_operands a_parents a_places a_children a_levels a_nests a_scopes a_nodeLambdas a_lambdaNodes ∧ 4 ≤ cl ∧ cl ≤ 48 ∧ 4 ≤ cm ∧ cm ≤ 64 ∧ st ≤ 2 ∧
  (1 ≤ st → h = 0 ∧ so_X n L (re_sol K P B n L) a_liveNodes a_nodeFlows a_paramFlows ∧ so_X n L (re_sol K P B n L) b_live b_s b_p) ∧
  (st = 2 → cn ≤ 113 ∧ cp_I K (tr_e P n) N oc nd tg en (re_sol K P B n L) n L cn ∧ (∀ x, x < cn → oc x = 6 → ∀ l, l < L → (re_sol K P B n L).2.1 (nd x + 1) = 2 ^ l → tg x = en l) ∧ ∀ l, l < L → a_entries l = nI (en l))
def i_Rel (_k : Nat) (u : SX) (v : SY) : Prop := ∃ (cs cl cm n h L st cn : Nat) (K P N Lv S O B oc nd tg bs en dn et bi : Nat → Nat) (f_grown f_runningEngine f_ending f_callCount f_closureCount f_frame f_waitingCount : Int32) (a_kinds a_operands a_parents a_places a_children a_levels a_nests a_scopes a_nodeLambdas a_lambdaNodes a_liveNodes a_nodeFlows a_paramFlows a_entries a_frameReturns a_closureLambdas a_records a_calledSets : Nat → Int32) (a_closureValues a_frameValues a_waiting : Nat → Int64) (b_s b_p b_live b_fn b_val : Nat → Int32), u = ((nI cs), (nI cl), (nI cm), (nI n), (nI h), (nI L), (nI st), f_grown, (nI cn), f_runningEngine, f_ending, f_callCount, f_closureCount, f_frame, f_waitingCount, a_kinds, a_operands, a_parents, a_places, a_children, a_levels, a_nests, a_scopes, a_nodeLambdas, a_lambdaNodes, a_liveNodes, a_nodeFlows, a_paramFlows, (rn_F oc), (rn_F nd), (rn_F tg), (rn_F bs), a_entries, a_frameReturns, a_frameValues, a_closureLambdas, a_closureValues, a_waiting, a_records, a_calledSets) ∧ v = ((nI cs), (nI cl), (nI cm), (nI n), (nI h), (nI st), a_kinds, a_operands, a_parents, b_s, b_p, a_records, a_calledSets, b_live, (rn_F dn), b_fn, b_val, (rn_F et), (rn_F bi)) ∧ re_I cs cl cm n h L st cn K P N Lv S O B oc nd tg en a_kinds a_operands a_parents a_places a_children a_levels a_nests a_scopes a_nodeLambdas a_lambdaNodes a_liveNodes a_nodeFlows a_paramFlows a_entries b_s b_p b_live
theorem i_in {k : Nat} {cs cl cm n h L st cn : Nat} {K P N Lv S O B oc nd tg bs en dn et bi : Nat → Nat} {f_grown f_runningEngine f_ending f_callCount f_closureCount f_frame f_waitingCount : Int32} {a_kinds a_operands a_parents a_places a_children a_levels a_nests a_scopes a_nodeLambdas a_lambdaNodes a_liveNodes a_nodeFlows a_paramFlows a_entries a_frameReturns a_closureLambdas a_records a_calledSets : Nat → Int32} {a_closureValues a_frameValues a_waiting : Nat → Int64} {b_s b_p b_live b_fn b_val : Nat → Int32} (hI : re_I cs cl cm n h L st cn K P N Lv S O B oc nd tg en a_kinds a_operands a_parents a_places a_children a_levels a_nests a_scopes a_nodeLambdas a_lambdaNodes a_liveNodes a_nodeFlows a_paramFlows a_entries b_s b_p b_live) : i_Rel k ((nI cs), (nI cl), (nI cm), (nI n), (nI h), (nI L), (nI st), f_grown, (nI cn), f_runningEngine, f_ending, f_callCount, f_closureCount, f_frame, f_waitingCount, a_kinds, a_operands, a_parents, a_places, a_children, a_levels, a_nests, a_scopes, a_nodeLambdas, a_lambdaNodes, a_liveNodes, a_nodeFlows, a_paramFlows, (rn_F oc), (rn_F nd), (rn_F tg), (rn_F bs), a_entries, a_frameReturns, a_frameValues, a_closureLambdas, a_closureValues, a_waiting, a_records, a_calledSets) ((nI cs), (nI cl), (nI cm), (nI n), (nI h), (nI st), a_kinds, a_operands, a_parents, b_s, b_p, a_records, a_calledSets, b_live, (rn_F dn), b_fn, b_val, (rn_F et), (rn_F bi)) := ⟨cs, cl, cm, n, h, L, st, cn, K, P, N, Lv, S, O, B, oc, nd, tg, bs, en, dn, et, bi, f_grown, f_runningEngine, f_ending, f_callCount, f_closureCount, f_frame, f_waitingCount, a_kinds, a_operands, a_parents, a_places, a_children, a_levels, a_nests, a_scopes, a_nodeLambdas, a_lambdaNodes, a_liveNodes, a_nodeFlows, a_paramFlows, a_entries, a_frameReturns, a_closureLambdas, a_records, a_calledSets, a_closureValues, a_frameValues, a_waiting, b_s, b_p, b_live, b_fn, b_val, rfl, rfl, hI⟩
theorem i_el {k : Nat} {u : SX} {v : SY} {G : SX → SY → Prop} (I : i_Rel k u v) (hG : ∀ (cs cl cm n h L st cn : Nat) (K P N Lv S O B oc nd tg bs en dn et bi : Nat → Nat) (f_grown f_runningEngine f_ending f_callCount f_closureCount f_frame f_waitingCount : Int32) (a_kinds a_operands a_parents a_places a_children a_levels a_nests a_scopes a_nodeLambdas a_lambdaNodes a_liveNodes a_nodeFlows a_paramFlows a_entries a_frameReturns a_closureLambdas a_records a_calledSets : Nat → Int32) (a_closureValues a_frameValues a_waiting : Nat → Int64) (b_s b_p b_live b_fn b_val : Nat → Int32), re_I cs cl cm n h L st cn K P N Lv S O B oc nd tg en a_kinds a_operands a_parents a_places a_children a_levels a_nests a_scopes a_nodeLambdas a_lambdaNodes a_liveNodes a_nodeFlows a_paramFlows a_entries b_s b_p b_live → i_Rel k ((nI cs), (nI cl), (nI cm), (nI n), (nI h), (nI L), (nI st), f_grown, (nI cn), f_runningEngine, f_ending, f_callCount, f_closureCount, f_frame, f_waitingCount, a_kinds, a_operands, a_parents, a_places, a_children, a_levels, a_nests, a_scopes, a_nodeLambdas, a_lambdaNodes, a_liveNodes, a_nodeFlows, a_paramFlows, (rn_F oc), (rn_F nd), (rn_F tg), (rn_F bs), a_entries, a_frameReturns, a_frameValues, a_closureLambdas, a_closureValues, a_waiting, a_records, a_calledSets) ((nI cs), (nI cl), (nI cm), (nI n), (nI h), (nI st), a_kinds, a_operands, a_parents, b_s, b_p, a_records, a_calledSets, b_live, (rn_F dn), b_fn, b_val, (rn_F et), (rn_F bi)) → G ((nI cs), (nI cl), (nI cm), (nI n), (nI h), (nI L), (nI st), f_grown, (nI cn), f_runningEngine, f_ending, f_callCount, f_closureCount, f_frame, f_waitingCount, a_kinds, a_operands, a_parents, a_places, a_children, a_levels, a_nests, a_scopes, a_nodeLambdas, a_lambdaNodes, a_liveNodes, a_nodeFlows, a_paramFlows, (rn_F oc), (rn_F nd), (rn_F tg), (rn_F bs), a_entries, a_frameReturns, a_frameValues, a_closureLambdas, a_closureValues, a_waiting, a_records, a_calledSets) ((nI cs), (nI cl), (nI cm), (nI n), (nI h), (nI st), a_kinds, a_operands, a_parents, b_s, b_p, a_records, a_calledSets, b_live, (rn_F dn), b_fn, b_val, (rn_F et), (rn_F bi))) : G u v := by
  have I0 := I
  obtain ⟨cs, cl, cm, n, h, L, st, cn, K, P, N, Lv, S, O, B, oc, nd, tg, bs, en, dn, et, bi, f_grown, f_runningEngine, f_ending, f_callCount, f_closureCount, f_frame, f_waitingCount, a_kinds, a_operands, a_parents, a_places, a_children, a_levels, a_nests, a_scopes, a_nodeLambdas, a_lambdaNodes, a_liveNodes, a_nodeFlows, a_paramFlows, a_entries, a_frameReturns, a_closureLambdas, a_records, a_calledSets, a_closureValues, a_frameValues, a_waiting, b_s, b_p, b_live, b_fn, b_val, rfl, rfl, hI⟩ := I
  exact hG cs cl cm n h L st cn K P N Lv S O B oc nd tg bs en dn et bi f_grown f_runningEngine f_ending f_callCount f_closureCount f_frame f_waitingCount a_kinds a_operands a_parents a_places a_children a_levels a_nests a_scopes a_nodeLambdas a_lambdaNodes a_liveNodes a_nodeFlows a_paramFlows a_entries a_frameReturns a_closureLambdas a_records a_calledSets a_closureValues a_frameValues a_waiting b_s b_p b_live b_fn b_val hI I0
theorem i_up {k : Nat} {u : SX} {v : SY} (h : i_Rel k u v) : i_Rel (k + 3) u v := h
/-! the constructors -/
theorem cl_ex (x : Int32) (lo hi : Nat) (h : lo ≤ hi) (hh : hi < 2 ^ 31) : ∃ c, lo ≤ c ∧ c ≤ hi ∧ ((nI lo ≤ x ∧ x ≤ nI hi ∧ x = nI c) ∨ (nI lo ≤ x ∧ ¬ x ≤ nI hi ∧ c = hi) ∨ (¬ nI lo ≤ x ∧ c = lo)) := by
  by_cases a : nI lo ≤ x
  · by_cases b : x ≤ nI hi
    · have h0 : ¬ x < 0 := fun w => by
        have h1 := Int32.lt_of_le_of_lt a w
        exact nI_pos (by omega) h1
      obtain ⟨j, j1, rfl⟩ := nI_of h0
      have a' := (nI_leI (by omega) j1).mp a
      have b' := (nI_leI j1 hh).mp b
      exact ⟨j, a', b', Or.inl ⟨a, b, rfl⟩⟩
    · exact ⟨hi, h, Nat.le_refl _, Or.inr (Or.inl ⟨a, b, rfl⟩)⟩
  · exact ⟨lo, Nat.le_refl _, h, Or.inr (Or.inr ⟨a, rfl⟩)⟩
theorem cl_x {post : Int32 → Prop} {x : Int32} {lo hi c : Nat} (h : (nI lo ≤ x ∧ x ≤ nI hi ∧ x = nI c) ∨ (nI lo ≤ x ∧ ¬ x ≤ nI hi ∧ c = hi) ∨ (¬ nI lo ≤ x ∧ c = lo)) (hp : post (nI c)) : wpX_clamp post x (nI lo) (nI hi) := by
  rcases h with ⟨a, b, e⟩ | ⟨a, b, e⟩ | ⟨a, e⟩
  · exact br_t a (br_t b (by rw [e]; exact hp))
  · subst e; exact br_t a (br_f b hp)
  · subst e; exact br_f a hp
theorem cl_y {A : Int32 → Prop} {x : Int32} {lo hi c : Nat} (h : (nI lo ≤ x ∧ x ≤ nI hi ∧ x = nI c) ∨ (nI lo ≤ x ∧ ¬ x ≤ nI hi ∧ c = hi) ∨ (¬ nI lo ≤ x ∧ c = lo)) (hp : A (nI c)) : (nI lo ≤ x → ((x ≤ nI hi → A x) ∧ (¬ x ≤ nI hi → A (nI hi)))) ∧ (¬ nI lo ≤ x → A (nI lo)) := by
  rcases h with ⟨a, b, e⟩ | ⟨a, b, e⟩ | ⟨a, e⟩
  · exact br_t a (br_t b (by rw [e]; exact hp))
  · subst e; exact br_t a (br_f b hp)
  · subst e; exact br_f a hp
theorem i_vc0 (k0 : Int32) (k1 : Int32) (k2 : Int32) : wpX_init (fun u => wpY_init (fun v => i_Rel 3 u v) k0 k1 k2) k0 k1 k2 := by
  obtain ⟨cs, s1, s2, hs⟩ := cl_ex k0 8 48 (by decide) (by decide)
  obtain ⟨cl, l1, l2, hl⟩ := cl_ex k1 4 48 (by decide) (by decide)
  obtain ⟨cm, m1, m2, hm⟩ := cl_ex k2 4 64 (by decide) (by decide)
  refine cl_x hs (cl_x hl (cl_x hm ?_))
  refine cl_y (A := fun z => wY_init_152 _ k1 k2 z 0 0 0 0 1 0 _ _ _ _ _ _ _ _ _ _ _ _ _) hs ?_
  refine cl_y (A := fun z => wY_init_177 _ k2 z (nI cs) 0 0 0 1 0 _ _ _ _ _ _ _ _ _ _ _ _ _) hl ?_
  refine cl_y (A := fun z => i_Rel 3 _ (nI cs, nI cl, z, _)) hm ?_
  refine ⟨cs, cl, cm, 0, 1, 0, 0, 0, (fun _ => 0), (fun _ => 0), (fun _ => 0), (fun _ => 0), (fun _ => 0), (fun _ => 0), (fun _ => 0), (fun _ => 0), (fun _ => 0), (fun _ => 0), (fun _ => 0), (fun _ => 0), (fun _ => 0), (fun _ => 0), (fun _ => 0), 0, 0, 0, 0, 0, 0, 0, (fun _ => 0), (fun _ => 0), (fun _ => 0), (fun _ => 0), (fun _ => 0), (fun _ => 0), (fun _ => 0), (fun _ => 0), (fun _ => 0), (fun _ => 0), (fun _ => 0), (fun _ => 0), (fun _ => 0), (fun _ => 0), (fun _ => 0), (fun _ => 0), (fun _ => 0), (fun _ => 0), (fun _ => 0), (fun _ => 0), (fun _ => 0), (fun _ => 0), (fun _ => 0), (fun _ => 0), (fun _ => 0), (fun _ => 0), rfl, rfl, ?_⟩
  exact ⟨re_A_0 (by omega) s2 _ _ _ _ _ _ _, re_X_0 _ _ _ _ _ _ _ _ _ _ _ _ _ _ _ _ _, l1, l2, m1, m2, by decide, fun z => absurd z (by decide), fun z => absurd z (by decide)⟩
end
section
/-! ===== the calls that need no solution ===== -/
theorem ez_5 (x : Int32) : 5 ≤ x ↔ 4 < x := by
  rw [Int32.le_iff_toInt_le, Int32.lt_iff_toInt_lt]
  have h1 : (5 : Int32).toInt = 5 := rfl
  have h2 : (4 : Int32).toInt = 4 := rfl
  omega
theorem ez_1 (x : Int32) : x < 1 ↔ x ≤ 0 := by
  rw [Int32.le_iff_toInt_le, Int32.lt_iff_toInt_lt]
  have h1 : (1 : Int32).toInt = 1 := rfl
  have h2 : (0 : Int32).toInt = 0 := rfl
  omega
/-- an engine's number -/
theorem ez_e (x : Int32) : (x = 0) ∨ (x = 1) ∨ (¬ x = 0 ∧ ¬ x = 1 ∧ (x < 0 ∨ (¬ x < 0 ∧ 1 < x))) := by
  by_cases a : x = 0
  · exact Or.inl a
  · by_cases b : x = 1
    · exact Or.inr (Or.inl b)
    · refine Or.inr (Or.inr ⟨a, b, ?_⟩)
      by_cases c : x < 0
      · exact Or.inl c
      · obtain ⟨j, j1, rfl⟩ := nI_of c
        refine Or.inr ⟨c, nI_lt (a := 1) ?_ j1⟩
        have h0 : j ≠ 0 := fun z => a (by rw [z]; rfl)
        have h1 : j ≠ 1 := fun z => b (by rw [z]; rfl)
        omega
theorem i_vc_stage {k : Nat} {u : SX} {v : SY} (I : i_Rel k u v) (hk : k + 3 ≤ 1539) : wpX_stage (fun r => wpY_stage (fun r' => r' = r ∧ i_Rel (k + 3) u v) v) u := by
  refine i_el (G := fun u v => wpX_stage (fun r => wpY_stage (fun r' => r' = r ∧ i_Rel (k + 3) u v) v) u) I ?_
  intro cs cl cm n h L st cn K P N Lv S O B oc nd tg bs en dn et bi f_grown f_runningEngine f_ending f_callCount f_closureCount f_frame f_waitingCount a_kinds a_operands a_parents a_places a_children a_levels a_nests a_scopes a_nodeLambdas a_lambdaNodes a_liveNodes a_nodeFlows a_paramFlows a_entries a_frameReturns a_closureLambdas a_records a_calledSets a_closureValues a_frameValues a_waiting b_s b_p b_live b_fn b_val hI I0
  exact br_c (fun z => br_t z ⟨rfl, I0⟩) (fun z => br_f z ⟨rfl, I0⟩)
theorem i_vc_clear {k : Nat} {u : SX} {v : SY} (I : i_Rel k u v) (hk : k + 3 ≤ 1539) : wpX_clear (fun u' => wpY_clear (fun v' => i_Rel (k + 3) u' v') v) u := by
  refine i_el (G := fun u v => wpX_clear (fun u' => wpY_clear (fun v' => i_Rel (k + 3) u' v') v) u) I ?_
  intro cs cl cm n h L st cn K P N Lv S O B oc nd tg bs en dn et bi f_grown f_runningEngine f_ending f_callCount f_closureCount f_frame f_waitingCount a_kinds a_operands a_parents a_places a_children a_levels a_nests a_scopes a_nodeLambdas a_lambdaNodes a_liveNodes a_nodeFlows a_paramFlows a_entries a_frameReturns a_closureLambdas a_records a_calledSets a_closureValues a_frameValues a_waiting b_s b_p b_live b_fn b_val hI I0
  obtain ⟨A, X, l1, l2, m1, m2, s, S1, S2⟩ := hI
  refine nm_e (nm_e (nm_e (nm_e ?_)))
  refine i_in (n := 0) (h := 1) (L := 0) (st := 0) (K := K) (P := P) (N := N) (Lv := Lv) (S := S) (O := O) (B := B) (en := en) ?_
  have h48 := A.2.2.2.1
  have hb := A.2.2.1
  refine ⟨re_A_0 ?_ h48 _ _ _ _ _ _ _, re_X_0 _ _ _ _ _ _ _ _ _ _ _ _ _ _ _ _ _, l1, l2, m1, m2, by decide, fun z => absurd z (by decide), fun z => absurd z (by decide)⟩
  have H : h + n = 1 + tr_sum (fun i => tr_ar (K i)) n := A.2.1
  omega
theorem i_vc_report {k : Nat} {u : SX} {v : SY} (I : i_Rel k u v) (hk : k + 3 ≤ 1539) (v1 : Int32) (v2 : Int32) : wpX_report (fun r => wpY_report (fun r' => r' = r ∧ i_Rel (k + 3) u v) v v1 v2) u v1 v2 := by
  refine i_el (G := fun u v => wpX_report (fun r => wpY_report (fun r' => r' = r ∧ i_Rel (k + 3) u v) v v1 v2) u v1 v2) I ?_
  intro cs cl cm n h L st cn K P N Lv S O B oc nd tg bs en dn et bi f_grown f_runningEngine f_ending f_callCount f_closureCount f_frame f_waitingCount a_kinds a_operands a_parents a_places a_children a_levels a_nests a_scopes a_nodeLambdas a_lambdaNodes a_liveNodes a_nodeFlows a_paramFlows a_entries a_frameReturns a_closureLambdas a_records a_calledSets a_closureValues a_frameValues a_waiting b_s b_p b_live b_fn b_val hI I0
  have main : ∀ e : Nat, e < 2 → ((v2 < 0 → wpY_report (fun r' => r' = 0 ∧ i_Rel (k + 3) ((nI cs), (nI cl), (nI cm), (nI n), (nI h), (nI L), (nI st), f_grown, (nI cn), f_runningEngine, f_ending, f_callCount, f_closureCount, f_frame, f_waitingCount, a_kinds, a_operands, a_parents, a_places, a_children, a_levels, a_nests, a_scopes, a_nodeLambdas, a_lambdaNodes, a_liveNodes, a_nodeFlows, a_paramFlows, (rn_F oc), (rn_F nd), (rn_F tg), (rn_F bs), a_entries, a_frameReturns, a_frameValues, a_closureLambdas, a_closureValues, a_waiting, a_records, a_calledSets) ((nI cs), (nI cl), (nI cm), (nI n), (nI h), (nI st), a_kinds, a_operands, a_parents, b_s, b_p, a_records, a_calledSets, b_live, (rn_F dn), b_fn, b_val, (rn_F et), (rn_F bi))) ((nI cs), (nI cl), (nI cm), (nI n), (nI h), (nI st), a_kinds, a_operands, a_parents, b_s, b_p, a_records, a_calledSets, b_live, (rn_F dn), b_fn, b_val, (rn_F et), (rn_F bi)) (nI e) v2) ∧ (¬ v2 < 0 → ((5 ≤ v2 → wpY_report (fun r' => r' = 0 ∧ i_Rel (k + 3) ((nI cs), (nI cl), (nI cm), (nI n), (nI h), (nI L), (nI st), f_grown, (nI cn), f_runningEngine, f_ending, f_callCount, f_closureCount, f_frame, f_waitingCount, a_kinds, a_operands, a_parents, a_places, a_children, a_levels, a_nests, a_scopes, a_nodeLambdas, a_lambdaNodes, a_liveNodes, a_nodeFlows, a_paramFlows, (rn_F oc), (rn_F nd), (rn_F tg), (rn_F bs), a_entries, a_frameReturns, a_frameValues, a_closureLambdas, a_closureValues, a_waiting, a_records, a_calledSets) ((nI cs), (nI cl), (nI cm), (nI n), (nI h), (nI st), a_kinds, a_operands, a_parents, b_s, b_p, a_records, a_calledSets, b_live, (rn_F dn), b_fn, b_val, (rn_F et), (rn_F bi))) ((nI cs), (nI cl), (nI cm), (nI n), (nI h), (nI st), a_kinds, a_operands, a_parents, b_s, b_p, a_records, a_calledSets, b_live, (rn_F dn), b_fn, b_val, (rn_F et), (rn_F bi)) (nI e) v2) ∧ (¬ 5 ≤ v2 → wpX_hasRun (fun r_5 => ((r_5 = 0 → wpY_report (fun r' => r' = 0 ∧ i_Rel (k + 3) ((nI cs), (nI cl), (nI cm), (nI n), (nI h), (nI L), (nI st), f_grown, (nI cn), f_runningEngine, f_ending, f_callCount, f_closureCount, f_frame, f_waitingCount, a_kinds, a_operands, a_parents, a_places, a_children, a_levels, a_nests, a_scopes, a_nodeLambdas, a_lambdaNodes, a_liveNodes, a_nodeFlows, a_paramFlows, (rn_F oc), (rn_F nd), (rn_F tg), (rn_F bs), a_entries, a_frameReturns, a_frameValues, a_closureLambdas, a_closureValues, a_waiting, a_records, a_calledSets) ((nI cs), (nI cl), (nI cm), (nI n), (nI h), (nI st), a_kinds, a_operands, a_parents, b_s, b_p, a_records, a_calledSets, b_live, (rn_F dn), b_fn, b_val, (rn_F et), (rn_F bi))) ((nI cs), (nI cl), (nI cm), (nI n), (nI h), (nI st), a_kinds, a_operands, a_parents, b_s, b_p, a_records, a_calledSets, b_live, (rn_F dn), b_fn, b_val, (rn_F et), (rn_F bi)) (nI e) v2) ∧ (¬ r_5 = 0 → (vp_in (nI e * 5 + v2) 10 ∧ wpY_report (fun r' => r' = a_records (nI e * 5 + v2).toNatClampNeg ∧ i_Rel (k + 3) ((nI cs), (nI cl), (nI cm), (nI n), (nI h), (nI L), (nI st), f_grown, (nI cn), f_runningEngine, f_ending, f_callCount, f_closureCount, f_frame, f_waitingCount, a_kinds, a_operands, a_parents, a_places, a_children, a_levels, a_nests, a_scopes, a_nodeLambdas, a_lambdaNodes, a_liveNodes, a_nodeFlows, a_paramFlows, (rn_F oc), (rn_F nd), (rn_F tg), (rn_F bs), a_entries, a_frameReturns, a_frameValues, a_closureLambdas, a_closureValues, a_waiting, a_records, a_calledSets) ((nI cs), (nI cl), (nI cm), (nI n), (nI h), (nI st), a_kinds, a_operands, a_parents, b_s, b_p, a_records, a_calledSets, b_live, (rn_F dn), b_fn, b_val, (rn_F et), (rn_F bi))) ((nI cs), (nI cl), (nI cm), (nI n), (nI h), (nI st), a_kinds, a_operands, a_parents, b_s, b_p, a_records, a_calledSets, b_live, (rn_F dn), b_fn, b_val, (rn_F et), (rn_F bi)) (nI e) v2)))) ((nI cs), (nI cl), (nI cm), (nI n), (nI h), (nI L), (nI st), f_grown, (nI cn), f_runningEngine, f_ending, f_callCount, f_closureCount, f_frame, f_waitingCount, a_kinds, a_operands, a_parents, a_places, a_children, a_levels, a_nests, a_scopes, a_nodeLambdas, a_lambdaNodes, a_liveNodes, a_nodeFlows, a_paramFlows, (rn_F oc), (rn_F nd), (rn_F tg), (rn_F bs), a_entries, a_frameReturns, a_frameValues, a_closureLambdas, a_closureValues, a_waiting, a_records, a_calledSets) (nI e))))) := fun e he => by
    have p0 : ¬ nI e < 0 := nI_pos (by omega)
    have p1 : ¬ 1 < nI e := nI_nlt (b := e) (a := 1) (by omega) (by decide)
    have i5 : vp_in (nI e * 5) 10 := by
      rw [show nI e * 5 = nI (e * 5) from pk_mul e 5]
      exact vp_in_nI (by omega) (by omega)
    refine br_c (fun z => br_f p0 (br_f p1 (br_t z ⟨rfl, I0⟩))) (fun z => br_c (fun y => br_f p0 (br_f p1 (br_f z (br_t ((ez_5 _).mp y) ⟨rfl, I0⟩)))) (fun y => ?_))
    have y' : ¬ 4 < v2 := fun w => y ((ez_5 _).mpr w)
    have iv : vp_in (nI e * 5 + v2) 10 := by
      obtain ⟨j, j1, rfl⟩ := nI_of z
      have j2 : j < 5 := by
        rcases Nat.lt_or_ge j 5 with q | q
        · exact q
        · exact absurd (nI_le (a := 5) q j1) y
      rw [show nI e * 5 = nI (e * 5) from pk_mul e 5, nI_add]
      exact vp_in_nI (by omega) (by omega)
    refine ⟨i5, br_c (fun w => ?_) (fun w => ?_)⟩
    · exact br_t rfl (br_f p0 (br_f p1 (br_f z (br_f y' ⟨i5, br_t w ⟨rfl, I0⟩⟩))))
    · exact br_f (by decide) ⟨iv, br_f p0 (br_f p1 (br_f z (br_f y' ⟨i5, br_f w ⟨iv, rfl, I0⟩⟩)))⟩
  rcases ez_e v1 with rfl | rfl | ⟨a, b, c⟩
  · exact br_t rfl (br_f (by decide) (main 0 (by decide)))
  · exact br_f (by decide) (br_t rfl (br_f (by decide) (main 1 (by decide))))
  · refine br_f a (br_f b (br_t rfl ?_))
    rcases c with c | ⟨c, d⟩
    · exact br_t c ⟨rfl, I0⟩
    · exact br_f c (br_t d ⟨rfl, I0⟩)
end
section
/-! ===== setNumber, look, live, flow, param, called, put ===== -/
theorem ez_kd {n : Nat} {cs h L : Nat} {K P N Lv S O B : Nat → Nat} {kd od pa pl ch le ne sc nl ln : Nat → Int32} (A : re_A cs n h L K P N Lv S O B) (X : re_X n K P N Lv S O B kd od pa pl ch le ne sc nl ln) : ∀ m, m < n → kd m = nI (K m) ∧ K m ≤ 6 := fun m hm => ⟨X.1 m hm, (A.2.2.2.2.2.2.2.2.2.1 m hm).1⟩
theorem ez_48 {n : Nat} {cs h L : Nat} {K P N Lv S O B : Nat → Nat} (A : re_A cs n h L K P N Lv S O B) : n ≤ 48 ∧ h ≤ 48 ∧ L ≤ 16 := by
  have := A.2.2.1
  have := A.2.2.2.1
  exact ⟨by omega, by omega, A.2.2.2.2.2.1⟩
theorem i_vc_setNumber {k : Nat} {u : SX} {v : SY} (I : i_Rel k u v) (hk : k + 3 ≤ 1539) (v1 : Int32) (v2 : Int32) : wpX_setNumber (fun r u' => wpY_setNumber (fun r' v' => r' = r ∧ i_Rel (k + 3) u' v') v v1 v2) u v1 v2 := by
  refine i_el (G := fun u v => wpX_setNumber (fun r u' => wpY_setNumber (fun r' v' => r' = r ∧ i_Rel (k + 3) u' v') v v1 v2) u v1 v2) I ?_
  intro cs cl cm n h L st cn K P N Lv S O B oc nd tg bs en dn et bi f_grown f_runningEngine f_ending f_callCount f_closureCount f_frame f_waitingCount a_kinds a_operands a_parents a_places a_children a_levels a_nests a_scopes a_nodeLambdas a_lambdaNodes a_liveNodes a_nodeFlows a_paramFlows a_entries a_frameReturns a_closureLambdas a_records a_calledSets a_closureValues a_frameValues a_waiting b_s b_p b_live b_fn b_val hI I0
  obtain ⟨A, X, l1, l2, m1, m2, s, S1, S2⟩ := hI
  obtain ⟨hn, hh, hL⟩ := ez_48 A
  unfold wpX_setNumber
  refine xx_isNode hn (fun z => ?_) (fun j hj e => ?_)
  · refine br_t rfl ?_
    unfold wpY_setNumber
    refine yy_has hn (fun _ => ?_) (fun j hj e => ?_)
    · exact br_t rfl ⟨rfl, I0⟩
    subst e
    rcases z with z | z
    · exact absurd z (nI_pos (by omega))
    · exact absurd z (nI_ge hj (by omega))
  · refine br_f (by decide) ?_
    subst e
    obtain ⟨k1, k2⟩ := ez_kd A X j hj
    have hi : vp_in (nI j) 48 := vp_in_nI (by omega) (by omega)
    have hc := nI_clamp (n := j) (by omega)
    have yn : ∀ {post : Int32 → Prop}, post 1 → wpY_has post ((nI cs), (nI cl), (nI cm), (nI n), (nI h), (nI st), a_kinds, a_operands, a_parents, b_s, b_p, a_records, a_calledSets, b_live, (rn_F dn), b_fn, b_val, (rn_F et), (rn_F bi)) (nI j) := fun hp => yy_has hn (fun z => by
      rcases z with z | z
      · exact absurd z (nI_pos (by omega))
      · exact absurd z (nI_ge hj (by omega))) (fun _ _ _ => hp)
    refine ⟨hi, ?_⟩
    rw [hc]
    by_cases z : K j = 1
    · refine br_t (by rw [k1, z]; rfl) ⟨hi, nm_e (nm_e (nm_e ?_))⟩
      unfold wpY_setNumber
      refine yn ?_
      refine br_f (by decide) ⟨hi, ?_⟩
      rw [hc]
      refine br_t (by rw [k1, z]; rfl) ⟨hi, nm_e (nm_e (nm_e ⟨rfl, ?_⟩))⟩
      refine i_in (K := K) (P := P) (N := N) (Lv := Lv) (S := S) (O := O) (B := B) (en := en) ?_
      exact ⟨A, re_X_num X z, l1, l2, m1, m2, s, S1, S2⟩
    · have ne : ¬ a_kinds j = 1 := fun w => z ((nI_eq (b := 1) (by omega) (by decide)).mp (k1.symm.trans w))
      refine br_f ne ?_
      unfold wpY_setNumber
      refine yn ?_
      refine br_f (by decide) ⟨hi, ?_⟩
      rw [hc]
      exact br_f ne ⟨rfl, I0⟩
theorem i_vc_look {k : Nat} {u : SX} {v : SY} (I : i_Rel k u v) (hk : k + 3 ≤ 1539) (v1 : Int32) (v2 : Int32) : wpX_look (fun r => wpY_look (fun r' => r' = r ∧ i_Rel (k + 3) u v) v v1 v2) u v1 v2 := by
  refine i_el (G := fun u v => wpX_look (fun r => wpY_look (fun r' => r' = r ∧ i_Rel (k + 3) u v) v v1 v2) u v1 v2) I ?_
  intro cs cl cm n h L st cn K P N Lv S O B oc nd tg bs en dn et bi f_grown f_runningEngine f_ending f_callCount f_closureCount f_frame f_waitingCount a_kinds a_operands a_parents a_places a_children a_levels a_nests a_scopes a_nodeLambdas a_lambdaNodes a_liveNodes a_nodeFlows a_paramFlows a_entries a_frameReturns a_closureLambdas a_records a_calledSets a_closureValues a_frameValues a_waiting b_s b_p b_live b_fn b_val hI I0
  obtain ⟨A, X, l1, l2, m1, m2, s, S1, S2⟩ := hI
  obtain ⟨hn, hh, hL⟩ := ez_48 A
  have X' := X
  obtain ⟨x1, x2, x3, x4, x5, x6, x7, x8, x9⟩ := X'
  unfold wpX_look
  refine xx_isNode hn (fun z => ?_) (fun j hj e => ?_)
  · refine br_t rfl ?_
    unfold wpY_look
    refine yy_has hn (fun _ => ?_) (fun j hj e => ?_)
    · exact br_t rfl ⟨rfl, I0⟩
    subst e
    rcases z with z | z
    · exact absurd z (nI_pos (by omega))
    · exact absurd z (nI_ge hj (by omega))
  · refine br_f (by decide) ?_
    subst e
    have hi : vp_in (nI j) 48 := vp_in_nI (by omega) (by omega)
    have hc := nI_clamp (n := j) (by omega)
    have bad : (v2 < 0 ∨ 3 < v2) → wpY_look (fun r' => r' = -1 ∧ i_Rel (k + 3) ((nI cs), (nI cl), (nI cm), (nI n), (nI h), (nI L), (nI st), f_grown, (nI cn), f_runningEngine, f_ending, f_callCount, f_closureCount, f_frame, f_waitingCount, a_kinds, a_operands, a_parents, a_places, a_children, a_levels, a_nests, a_scopes, a_nodeLambdas, a_lambdaNodes, a_liveNodes, a_nodeFlows, a_paramFlows, (rn_F oc), (rn_F nd), (rn_F tg), (rn_F bs), a_entries, a_frameReturns, a_frameValues, a_closureLambdas, a_closureValues, a_waiting, a_records, a_calledSets) ((nI cs), (nI cl), (nI cm), (nI n), (nI h), (nI st), a_kinds, a_operands, a_parents, b_s, b_p, a_records, a_calledSets, b_live, (rn_F dn), b_fn, b_val, (rn_F et), (rn_F bi))) ((nI cs), (nI cl), (nI cm), (nI n), (nI h), (nI st), a_kinds, a_operands, a_parents, b_s, b_p, a_records, a_calledSets, b_live, (rn_F dn), b_fn, b_val, (rn_F et), (rn_F bi)) (nI j) v2 := fun w =>
      yy_look A (ez_kd A X) x4 x2 hj (fun e => by subst e; rcases w with w | w <;> exact absurd w (by decide)) (fun e => by subst e; rcases w with w | w <;> exact absurd w (by decide)) (fun e => by subst e; rcases w with w | w <;> exact absurd w (by decide)) (fun e => by subst e; rcases w with w | w <;> exact absurd w (by decide)) (fun _ => ⟨rfl, I0⟩)
    refine br_c (fun z => bad (Or.inl z)) (fun z => br_c (fun y => bad (Or.inr y)) (fun y => ?_))
    by_cases w0 : v2 = 0
    · subst w0
      refine br_t rfl ⟨hi, ?_⟩
      rw [hc]
      exact yy_look A (ez_kd A X) x4 x2 hj (fun _ => ⟨rfl, I0⟩) (fun e => absurd e (by decide)) (fun e => absurd e (by decide)) (fun e => absurd e (by decide)) (fun e => by rcases e with e | e <;> exact absurd e (by decide))
    refine br_f w0 ?_
    by_cases w1 : v2 = 1
    · subst w1
      refine br_t rfl ⟨hi, ?_⟩
      rw [hc]
      exact yy_look A (ez_kd A X) x4 x2 hj (fun e => absurd e (by decide)) (fun _ => ⟨rfl, I0⟩) (fun e => absurd e (by decide)) (fun e => absurd e (by decide)) (fun e => by rcases e with e | e <;> exact absurd e (by decide))
    refine br_f w1 ?_
    by_cases w2 : v2 = 2
    · subst w2
      refine br_t rfl ⟨hi, ?_⟩
      rw [hc]
      exact yy_look A (ez_kd A X) x4 x2 hj (fun e => absurd e (by decide)) (fun e => absurd e (by decide)) (fun _ => ⟨rfl, I0⟩) (fun e => absurd e (by decide)) (fun e => by rcases e with e | e <;> exact absurd e (by decide))
    refine br_f w2 ?_
    by_cases w3 : v2 = 3
    · subst w3
      refine br_t rfl ⟨hi, ?_⟩
      rw [hc]
      refine yy_look A (ez_kd A X) x4 x2 hj (fun e => absurd e (by decide)) (fun e => absurd e (by decide)) (fun e => absurd e (by decide)) (fun _ => ⟨fun q => ⟨?_, I0⟩, fun q => ⟨?_, I0⟩, fun q r => ⟨?_, I0⟩⟩) (fun e => by rcases e with e | e <;> exact absurd e (by decide))
      · exact ((x8 j hj).1 q).symm
      · exact ((x8 j hj).2.1 q).symm
      · exact ((x8 j hj).2.2 q r).symm
    · exact br_f w3 trivial
theorem ez_st {st : Nat} (s : st ≤ 2) : (nI st < 1 ↔ st = 0) ∧ (nI st ≤ 0 ↔ st = 0) := by
  have hc : st = 0 ∨ st = 1 ∨ st = 2 := by omega
  rcases hc with rfl | rfl | rfl
  · exact ⟨⟨fun _ => rfl, fun _ => by decide⟩, ⟨fun _ => rfl, fun _ => by decide⟩⟩
  · exact ⟨⟨fun z => absurd z (by decide), fun z => by omega⟩, ⟨fun z => absurd z (by decide), fun z => by omega⟩⟩
  · exact ⟨⟨fun z => absurd z (by decide), fun z => by omega⟩, ⟨fun z => absurd z (by decide), fun z => by omega⟩⟩
section
variable {f_cellLimit f_callLimit f_closureLimit f_nodes f_holes f_lambdas f_stageReached f_grown f_codeLength f_runningEngine f_ending f_callCount f_closureCount f_frame f_waitingCount : Int32} {a_kinds a_operands a_parents a_places a_children a_levels a_nests a_scopes a_nodeLambdas a_lambdaNodes a_liveNodes a_nodeFlows a_paramFlows a_codeOps a_codeNodes a_codeTargets a_branchSpots a_entries a_frameReturns a_closureLambdas a_records a_calledSets : Nat → Int32} {a_closureValues a_frameValues a_waiting : Nat → Int64}
theorem xx_isSolvedNode {post : Int32 → Prop} {n st : Nat} {x : Int32} (hn : n ≤ 48) (s : st ≤ 2) (h0 : st = 0 ∨ (1 ≤ st ∧ (x < 0 ∨ nI n ≤ x)) → post 0) (h1 : ∀ j, 1 ≤ st → j < n → x = nI j → post 1) : wpX_isSolvedNode post (f_cellLimit, f_callLimit, f_closureLimit, (nI n), f_holes, f_lambdas, (nI st), f_grown, f_codeLength, f_runningEngine, f_ending, f_callCount, f_closureCount, f_frame, f_waitingCount, a_kinds, a_operands, a_parents, a_places, a_children, a_levels, a_nests, a_scopes, a_nodeLambdas, a_lambdaNodes, a_liveNodes, a_nodeFlows, a_paramFlows, a_codeOps, a_codeNodes, a_codeTargets, a_branchSpots, a_entries, a_frameReturns, a_frameValues, a_closureLambdas, a_closureValues, a_waiting, a_records, a_calledSets) x := by
  by_cases z : st = 0
  · exact br_t ((ez_st s).1.mpr z) (h0 (Or.inl z))
  · refine br_f (fun w => z ((ez_st s).1.mp w)) (xx_isNode hn (fun w => br_t rfl (h0 (Or.inr ⟨by omega, w⟩))) (fun j hj e => br_f (by decide) (h1 j (by omega) hj e)))
theorem xx_isSolvedLambda {post : Int32 → Prop} {L st : Nat} {x : Int32} (hL : L ≤ 16) (s : st ≤ 2) (h0 : st = 0 ∨ (1 ≤ st ∧ (x < 0 ∨ nI L ≤ x)) → post 0) (h1 : ∀ j, 1 ≤ st → j < L → x = nI j → post 1) : wpX_isSolvedLambda post (f_cellLimit, f_callLimit, f_closureLimit, f_nodes, f_holes, (nI L), (nI st), f_grown, f_codeLength, f_runningEngine, f_ending, f_callCount, f_closureCount, f_frame, f_waitingCount, a_kinds, a_operands, a_parents, a_places, a_children, a_levels, a_nests, a_scopes, a_nodeLambdas, a_lambdaNodes, a_liveNodes, a_nodeFlows, a_paramFlows, a_codeOps, a_codeNodes, a_codeTargets, a_branchSpots, a_entries, a_frameReturns, a_frameValues, a_closureLambdas, a_closureValues, a_waiting, a_records, a_calledSets) x := by
  by_cases z : st = 0
  · exact br_t ((ez_st s).1.mpr z) (h0 (Or.inl z))
  · refine br_f (fun w => z ((ez_st s).1.mp w)) (br_c (fun y => h0 (Or.inr ⟨by omega, Or.inl y⟩)) (fun y => br_c (fun w => h0 (Or.inr ⟨by omega, Or.inr w⟩)) (fun w => ?_)))
    rcases pk_ix x (n := L) (by omega) with q | q | ⟨j, q1, q2⟩
    · exact absurd q y
    · exact absurd q w
    · exact h1 j (by omega) q1 q2
end
theorem i_vc_live {k : Nat} {u : SX} {v : SY} (I : i_Rel k u v) (hk : k + 3 ≤ 1539) (v1 : Int32) : wpX_live (fun r => wpY_live (fun r' => r' = r ∧ i_Rel (k + 3) u v) v v1) u v1 := by
  refine i_el (G := fun u v => wpX_live (fun r => wpY_live (fun r' => r' = r ∧ i_Rel (k + 3) u v) v v1) u v1) I ?_
  intro cs cl cm n h L st cn K P N Lv S O B oc nd tg bs en dn et bi f_grown f_runningEngine f_ending f_callCount f_closureCount f_frame f_waitingCount a_kinds a_operands a_parents a_places a_children a_levels a_nests a_scopes a_nodeLambdas a_lambdaNodes a_liveNodes a_nodeFlows a_paramFlows a_entries a_frameReturns a_closureLambdas a_records a_calledSets a_closureValues a_frameValues a_waiting b_s b_p b_live b_fn b_val hI I0
  obtain ⟨A, X, l1, l2, m1, m2, s, S1, S2⟩ := hI
  obtain ⟨hn, hh, hL⟩ := ez_48 A
  unfold wpX_live
  refine xx_isSolvedNode hn s (fun z => ?_) (fun j h1 hj e => ?_)
  · refine br_t rfl ?_
    rcases z with z | ⟨z, y⟩
    · exact br_t ((ez_st s).2.mpr z) ⟨rfl, I0⟩
    · refine br_f (fun w => by have := (ez_st s).2.mp w; omega) (yy_has hn (fun _ => br_t rfl ⟨rfl, I0⟩) (fun j hj e => ?_))
      subst e
      rcases y with y | y
      · exact absurd y (nI_pos (by omega))
      · exact absurd y (nI_ge hj (by omega))
  · refine br_f (by decide) ?_
    subst e
    obtain ⟨_, a1, a2⟩ := S1 h1
    have hi : vp_in (nI j) 48 := vp_in_nI (by omega) (by omega)
    have hc := nI_clamp (n := j) (by omega)
    have eq : b_live j = a_liveNodes j := (a2.1 j hj).1.trans (a1.1 j hj).1.symm
    have yn : ∀ {post : Int32 → Prop}, post 1 → wpY_has post ((nI cs), (nI cl), (nI cm), (nI n), (nI h), (nI st), a_kinds, a_operands, a_parents, b_s, b_p, a_records, a_calledSets, b_live, (rn_F dn), b_fn, b_val, (rn_F et), (rn_F bi)) (nI j) := fun hp => yy_has hn (fun z => by
      rcases z with z | z
      · exact absurd z (nI_pos (by omega))
      · exact absurd z (nI_ge hj (by omega))) (fun _ _ _ => hp)
    refine ⟨hi, ?_⟩
    rw [hc]
    refine br_c (fun z => ?_) (fun z => ?_)
    · refine br_f (fun w => by have := (ez_st s).2.mp w; omega) (yn (br_f (by decide) ⟨hi, ?_⟩))
      rw [hc, eq]
      exact br_t z ⟨rfl, I0⟩
    · refine br_f (fun w => by have := (ez_st s).2.mp w; omega) (yn (br_f (by decide) ⟨hi, ?_⟩))
      rw [hc, eq]
      exact br_f z ⟨rfl, I0⟩
theorem i_vc_flow {k : Nat} {u : SX} {v : SY} (I : i_Rel k u v) (hk : k + 3 ≤ 1539) (v1 : Int32) : wpX_flow (fun r => wpY_flow (fun r' => r' = r ∧ i_Rel (k + 3) u v) v v1) u v1 := by
  refine i_el (G := fun u v => wpX_flow (fun r => wpY_flow (fun r' => r' = r ∧ i_Rel (k + 3) u v) v v1) u v1) I ?_
  intro cs cl cm n h L st cn K P N Lv S O B oc nd tg bs en dn et bi f_grown f_runningEngine f_ending f_callCount f_closureCount f_frame f_waitingCount a_kinds a_operands a_parents a_places a_children a_levels a_nests a_scopes a_nodeLambdas a_lambdaNodes a_liveNodes a_nodeFlows a_paramFlows a_entries a_frameReturns a_closureLambdas a_records a_calledSets a_closureValues a_frameValues a_waiting b_s b_p b_live b_fn b_val hI I0
  obtain ⟨A, X, l1, l2, m1, m2, s, S1, S2⟩ := hI
  obtain ⟨hn, hh, hL⟩ := ez_48 A
  unfold wpX_flow
  refine xx_isSolvedNode hn s (fun z => ?_) (fun j h1 hj e => ?_)
  · refine br_t rfl ?_
    rcases z with z | ⟨z, y⟩
    · exact br_t ((ez_st s).2.mpr z) ⟨rfl, I0⟩
    · refine br_f (fun w => by have := (ez_st s).2.mp w; omega) (yy_has hn (fun _ => br_t rfl ⟨rfl, I0⟩) (fun j hj e => ?_))
      subst e
      rcases y with y | y
      · exact absurd y (nI_pos (by omega))
      · exact absurd y (nI_ge hj (by omega))
  · refine br_f (by decide) ?_
    subst e
    obtain ⟨_, a1, a2⟩ := S1 h1
    have hi : vp_in (nI j) 48 := vp_in_nI (by omega) (by omega)
    have hc := nI_clamp (n := j) (by omega)
    have eq : b_s j = a_nodeFlows j := (a2.1 j hj).2.trans (a1.1 j hj).2.symm
    refine ⟨hi, ?_⟩
    rw [hc]
    refine br_f (fun w => by have := (ez_st s).2.mp w; omega) (yy_has hn (fun z => ?_) (fun _ _ _ => br_f (by decide) ⟨hi, ?_⟩))
    · rcases z with z | z
      · exact absurd z (nI_pos (by omega))
      · exact absurd z (nI_ge hj (by omega))
    · rw [hc]
      exact ⟨eq, I0⟩
theorem i_vc_param {k : Nat} {u : SX} {v : SY} (I : i_Rel k u v) (hk : k + 3 ≤ 1539) (v1 : Int32) : wpX_param (fun r => wpY_param (fun r' => r' = r ∧ i_Rel (k + 3) u v) v v1) u v1 := by
  refine i_el (G := fun u v => wpX_param (fun r => wpY_param (fun r' => r' = r ∧ i_Rel (k + 3) u v) v v1) u v1) I ?_
  intro cs cl cm n h L st cn K P N Lv S O B oc nd tg bs en dn et bi f_grown f_runningEngine f_ending f_callCount f_closureCount f_frame f_waitingCount a_kinds a_operands a_parents a_places a_children a_levels a_nests a_scopes a_nodeLambdas a_lambdaNodes a_liveNodes a_nodeFlows a_paramFlows a_entries a_frameReturns a_closureLambdas a_records a_calledSets a_closureValues a_frameValues a_waiting b_s b_p b_live b_fn b_val hI I0
  obtain ⟨A, X, l1, l2, m1, m2, s, S1, S2⟩ := hI
  obtain ⟨hn, hh, hL⟩ := ez_48 A
  have hLn := A.2.2.2.2.1
  unfold wpX_param
  refine xx_isSolvedLambda hL s (fun z => ?_) (fun j h1 hj e => ?_)
  · refine br_t rfl ?_
    rcases z with z | ⟨z, y⟩
    · exact br_t ((ez_st s).2.mpr z) ⟨rfl, I0⟩
    · refine br_f (fun w => by have := (ez_st s).2.mp w; omega) (yy_lambdaNode hn (ez_kd A X) (fun m hm km e => ?_) (fun _ => br_t (by decide) ⟨rfl, I0⟩))
      subst e
      have := tr_lc_lt hm km
      rcases y with y | y
      · exact absurd y (nI_pos (by omega))
      · exact absurd y (nI_ge (by omega) (by omega))
  · refine br_f (by decide) ?_
    subst e
    obtain ⟨_, a1, a2⟩ := S1 h1
    have hi : vp_in (nI j) 16 := vp_in_nI (by omega) (by omega)
    have hc := nI_clamp (n := j) (by omega)
    have eq : b_p j = a_paramFlows j := (a2.2 j hj).trans (a1.2 j hj).symm
    refine ⟨hi, ?_⟩
    rw [hc]
    refine br_f (fun w => by have := (ez_st s).2.mp w; omega) (yy_lambdaNode hn (ez_kd A X) (fun m hm km e => br_f (nI_pos (by omega)) ⟨hi, ?_⟩) (fun w => ?_))
    · rw [hc]
      exact ⟨eq, I0⟩
    · obtain ⟨m, q1, q2, q3⟩ := tr_lc_find (K := K) (l := j) n (by omega)
      exact absurd (by rw [q3]) (w m q1 q2)
theorem i_vc_called {k : Nat} {u : SX} {v : SY} (I : i_Rel k u v) (hk : k + 3 ≤ 1539) (v1 : Int32) (v2 : Int32) : wpX_called (fun r => wpY_called (fun r' => r' = r ∧ i_Rel (k + 3) u v) v v1 v2) u v1 v2 := by
  refine i_el (G := fun u v => wpX_called (fun r => wpY_called (fun r' => r' = r ∧ i_Rel (k + 3) u v) v v1 v2) u v1 v2) I ?_
  intro cs cl cm n h L st cn K P N Lv S O B oc nd tg bs en dn et bi f_grown f_runningEngine f_ending f_callCount f_closureCount f_frame f_waitingCount a_kinds a_operands a_parents a_places a_children a_levels a_nests a_scopes a_nodeLambdas a_lambdaNodes a_liveNodes a_nodeFlows a_paramFlows a_entries a_frameReturns a_closureLambdas a_records a_calledSets a_closureValues a_frameValues a_waiting b_s b_p b_live b_fn b_val hI I0
  obtain ⟨A, X, l1, l2, m1, m2, s, S1, S2⟩ := hI
  obtain ⟨hn, hh, hL⟩ := ez_48 A
  have main : ∀ e : Nat, e < 2 → wpX_isNode (fun r_3 => ((r_3 = 0 → wpY_called (fun r' => r' = -1 ∧ i_Rel (k + 3) ((nI cs), (nI cl), (nI cm), (nI n), (nI h), (nI L), (nI st), f_grown, (nI cn), f_runningEngine, f_ending, f_callCount, f_closureCount, f_frame, f_waitingCount, a_kinds, a_operands, a_parents, a_places, a_children, a_levels, a_nests, a_scopes, a_nodeLambdas, a_lambdaNodes, a_liveNodes, a_nodeFlows, a_paramFlows, (rn_F oc), (rn_F nd), (rn_F tg), (rn_F bs), a_entries, a_frameReturns, a_frameValues, a_closureLambdas, a_closureValues, a_waiting, a_records, a_calledSets) ((nI cs), (nI cl), (nI cm), (nI n), (nI h), (nI st), a_kinds, a_operands, a_parents, b_s, b_p, a_records, a_calledSets, b_live, (rn_F dn), b_fn, b_val, (rn_F et), (rn_F bi))) ((nI cs), (nI cl), (nI cm), (nI n), (nI h), (nI st), a_kinds, a_operands, a_parents, b_s, b_p, a_records, a_calledSets, b_live, (rn_F dn), b_fn, b_val, (rn_F et), (rn_F bi)) (nI e) v2) ∧ (¬ r_3 = 0 → (vp_in v2 48 ∧ ((a_kinds v2.toNatClampNeg = 3 → wpX_hasRun (fun r_47 => ((r_47 = 0 → wpY_called (fun r' => r' = 0 ∧ i_Rel (k + 3) ((nI cs), (nI cl), (nI cm), (nI n), (nI h), (nI L), (nI st), f_grown, (nI cn), f_runningEngine, f_ending, f_callCount, f_closureCount, f_frame, f_waitingCount, a_kinds, a_operands, a_parents, a_places, a_children, a_levels, a_nests, a_scopes, a_nodeLambdas, a_lambdaNodes, a_liveNodes, a_nodeFlows, a_paramFlows, (rn_F oc), (rn_F nd), (rn_F tg), (rn_F bs), a_entries, a_frameReturns, a_frameValues, a_closureLambdas, a_closureValues, a_waiting, a_records, a_calledSets) ((nI cs), (nI cl), (nI cm), (nI n), (nI h), (nI st), a_kinds, a_operands, a_parents, b_s, b_p, a_records, a_calledSets, b_live, (rn_F dn), b_fn, b_val, (rn_F et), (rn_F bi))) ((nI cs), (nI cl), (nI cm), (nI n), (nI h), (nI st), a_kinds, a_operands, a_parents, b_s, b_p, a_records, a_calledSets, b_live, (rn_F dn), b_fn, b_val, (rn_F et), (rn_F bi)) (nI e) v2) ∧ (¬ r_47 = 0 → (vp_in (nI e * 48 + v2) 96 ∧ wpY_called (fun r' => r' = a_calledSets (nI e * 48 + v2).toNatClampNeg ∧ i_Rel (k + 3) ((nI cs), (nI cl), (nI cm), (nI n), (nI h), (nI L), (nI st), f_grown, (nI cn), f_runningEngine, f_ending, f_callCount, f_closureCount, f_frame, f_waitingCount, a_kinds, a_operands, a_parents, a_places, a_children, a_levels, a_nests, a_scopes, a_nodeLambdas, a_lambdaNodes, a_liveNodes, a_nodeFlows, a_paramFlows, (rn_F oc), (rn_F nd), (rn_F tg), (rn_F bs), a_entries, a_frameReturns, a_frameValues, a_closureLambdas, a_closureValues, a_waiting, a_records, a_calledSets) ((nI cs), (nI cl), (nI cm), (nI n), (nI h), (nI st), a_kinds, a_operands, a_parents, b_s, b_p, a_records, a_calledSets, b_live, (rn_F dn), b_fn, b_val, (rn_F et), (rn_F bi))) ((nI cs), (nI cl), (nI cm), (nI n), (nI h), (nI st), a_kinds, a_operands, a_parents, b_s, b_p, a_records, a_calledSets, b_live, (rn_F dn), b_fn, b_val, (rn_F et), (rn_F bi)) (nI e) v2)))) ((nI cs), (nI cl), (nI cm), (nI n), (nI h), (nI L), (nI st), f_grown, (nI cn), f_runningEngine, f_ending, f_callCount, f_closureCount, f_frame, f_waitingCount, a_kinds, a_operands, a_parents, a_places, a_children, a_levels, a_nests, a_scopes, a_nodeLambdas, a_lambdaNodes, a_liveNodes, a_nodeFlows, a_paramFlows, (rn_F oc), (rn_F nd), (rn_F tg), (rn_F bs), a_entries, a_frameReturns, a_frameValues, a_closureLambdas, a_closureValues, a_waiting, a_records, a_calledSets) (nI e)) ∧ (¬ a_kinds v2.toNatClampNeg = 3 → wpY_called (fun r' => r' = -1 ∧ i_Rel (k + 3) ((nI cs), (nI cl), (nI cm), (nI n), (nI h), (nI L), (nI st), f_grown, (nI cn), f_runningEngine, f_ending, f_callCount, f_closureCount, f_frame, f_waitingCount, a_kinds, a_operands, a_parents, a_places, a_children, a_levels, a_nests, a_scopes, a_nodeLambdas, a_lambdaNodes, a_liveNodes, a_nodeFlows, a_paramFlows, (rn_F oc), (rn_F nd), (rn_F tg), (rn_F bs), a_entries, a_frameReturns, a_frameValues, a_closureLambdas, a_closureValues, a_waiting, a_records, a_calledSets) ((nI cs), (nI cl), (nI cm), (nI n), (nI h), (nI st), a_kinds, a_operands, a_parents, b_s, b_p, a_records, a_calledSets, b_live, (rn_F dn), b_fn, b_val, (rn_F et), (rn_F bi))) ((nI cs), (nI cl), (nI cm), (nI n), (nI h), (nI st), a_kinds, a_operands, a_parents, b_s, b_p, a_records, a_calledSets, b_live, (rn_F dn), b_fn, b_val, (rn_F et), (rn_F bi)) (nI e) v2)))))) ((nI cs), (nI cl), (nI cm), (nI n), (nI h), (nI L), (nI st), f_grown, (nI cn), f_runningEngine, f_ending, f_callCount, f_closureCount, f_frame, f_waitingCount, a_kinds, a_operands, a_parents, a_places, a_children, a_levels, a_nests, a_scopes, a_nodeLambdas, a_lambdaNodes, a_liveNodes, a_nodeFlows, a_paramFlows, (rn_F oc), (rn_F nd), (rn_F tg), (rn_F bs), a_entries, a_frameReturns, a_frameValues, a_closureLambdas, a_closureValues, a_waiting, a_records, a_calledSets) v2 := fun e he => by
    have p0 : ¬ nI e < 0 := nI_pos (by omega)
    have p1 : ¬ 1 < nI e := nI_nlt (b := e) (a := 1) (by omega) (by decide)
    have i5 : vp_in (nI e * 5) 10 := by
      rw [show nI e * 5 = nI (e * 5) from pk_mul e 5]
      exact vp_in_nI (by omega) (by omega)
    refine xx_isNode hn (fun z => br_t rfl ?_) (fun j hj ej => br_f (by decide) ?_)
    · refine br_f p0 (br_f p1 (yy_has hn (fun _ => br_t rfl ⟨rfl, I0⟩) (fun j hj e => ?_)))
      subst e
      rcases z with z | z
      · exact absurd z (nI_pos (by omega))
      · exact absurd z (nI_ge hj (by omega))
    · subst ej
      have hi : vp_in (nI j) 48 := vp_in_nI (by omega) (by omega)
      have iv : vp_in (nI e * 48 + nI j) 96 := by
        rw [show nI e * 48 = nI (e * 48) from pk_mul e 48, nI_add]
        exact vp_in_nI (by omega) (by omega)
      have yn : ∀ {post : Int32 → Prop}, post 1 → wpY_has post ((nI cs), (nI cl), (nI cm), (nI n), (nI h), (nI st), a_kinds, a_operands, a_parents, b_s, b_p, a_records, a_calledSets, b_live, (rn_F dn), b_fn, b_val, (rn_F et), (rn_F bi)) (nI j) := fun hp => yy_has hn (fun z => by
        rcases z with z | z
        · exact absurd z (nI_pos (by omega))
        · exact absurd z (nI_ge hj (by omega))) (fun _ _ _ => hp)
      refine ⟨hi, br_c (fun z => ⟨i5, br_c (fun w => ?_) (fun w => ?_)⟩) (fun z => ?_)⟩
      · exact br_t rfl (br_f p0 (br_f p1 (yn (br_f (by decide) ⟨hi, br_t z ⟨i5, br_t w ⟨rfl, I0⟩⟩⟩))))
      · exact br_f (by decide) ⟨iv, br_f p0 (br_f p1 (yn (br_f (by decide) ⟨hi, br_t z ⟨i5, br_f w ⟨iv, rfl, I0⟩⟩⟩)))⟩
      · exact br_f p0 (br_f p1 (yn (br_f (by decide) ⟨hi, br_f z ⟨rfl, I0⟩⟩)))
  rcases ez_e v1 with rfl | rfl | ⟨a, b, c⟩
  · exact br_t rfl (br_f (by decide) (main 0 (by decide)))
  · exact br_f (by decide) (br_t rfl (br_f (by decide) (main 1 (by decide))))
  · refine br_f a (br_f b (br_t rfl ?_))
    rcases c with c | ⟨c, d⟩
    · exact br_t c ⟨rfl, I0⟩
    · exact br_f c (br_t d ⟨rfl, I0⟩)
end
section
/-! ===== put ===== -/
theorem re_p_ex {cs n h L : Nat} {K P N Lv S O B : Nat → Nat} (A : re_A cs n h L K P N Lv S O B) (hh : 0 < h) : ∃ p, re_p K P n p := by
  by_cases z : n = 0
  · exact ⟨0, fun w => by omega⟩
  · have go : ∀ d q, q < n → tr_cnt P q n < tr_ar (K q) → n - q ≤ d → ∃ p, p < n ∧ tr_cnt P p n < tr_ar (K p) ∧ ∀ r, p < r → r < n → tr_ar (K r) ≤ tr_cnt P r n := by
      intro d
      induction d with
      | zero => intro q h1 _ h2; omega
      | succ d ih =>
        intro q h1 h2 h3
        by_cases w : ∃ r, q < r ∧ r < n ∧ tr_cnt P r n < tr_ar (K r)
        · obtain ⟨r, r1, r2, r3⟩ := w
          exact ih r r2 r3 (by omega)
        · refine ⟨q, h1, h2, fun r r1 r2 => ?_⟩
          rcases Nat.lt_or_ge (tr_cnt P r n) (tr_ar (K r)) with y | y
          · exact absurd ⟨r, r1, r2, y⟩ w
          · exact y
    obtain ⟨q, q1, q2⟩ := tr_open_ex A.1 A.2.1 (by omega) hh
    obtain ⟨p, p1⟩ := go n q q1 q2 (by omega)
    exact ⟨p, fun _ => p1⟩
theorem i_vc_put {k : Nat} {u : SX} {v : SY} (I : i_Rel k u v) (hk : k + 3 ≤ 1539) (v1 : Int32) (v2 : Int32) : wpX_put (fun r u' => wpY_put (fun r' v' => r' = r ∧ i_Rel (k + 3) u' v') v v1 v2) u v1 v2 := by
  refine i_el (G := fun u v => wpX_put (fun r u' => wpY_put (fun r' v' => r' = r ∧ i_Rel (k + 3) u' v') v v1 v2) u v1 v2) I ?_
  intro cs cl cm n h L st cn K P N Lv S O B oc nd tg bs en dn et bi f_grown f_runningEngine f_ending f_callCount f_closureCount f_frame f_waitingCount a_kinds a_operands a_parents a_places a_children a_levels a_nests a_scopes a_nodeLambdas a_lambdaNodes a_liveNodes a_nodeFlows a_paramFlows a_entries a_frameReturns a_closureLambdas a_records a_calledSets a_closureValues a_frameValues a_waiting b_s b_p b_live b_fn b_val hI I0
  obtain ⟨A, X, l1, l2, m1, m2, s, S1, S2⟩ := hI
  obtain ⟨hn, hh, hL⟩ := ez_48 A
  rcases pk_ix v1 (n := 7) (by decide) with z | z | ⟨j, j1, rfl⟩
  · exact br_t z (br_t z ⟨rfl, I0⟩)
  · have z0 : ¬ v1 < 0 := fun w => by
      have h1 := Int32.lt_of_le_of_lt z w
      exact absurd h1 (by decide)
    have z6 : ¬ v1 ≤ 6 := fun w => by
      have h1 := Int32.le_trans z w
      exact absurd h1 (by decide)
    exact br_f z0 (br_f z6 (br_f z0 (br_f z6 ⟨rfl, I0⟩)))
  · by_cases h0 : h = 0
    · subst h0
      refine br_f (nI_pos (by omega)) (br_t (nI_le (b := 6) (by omega) (by decide)) (br_t rfl ?_))
      exact br_f (nI_pos (by omega)) (br_t (nI_le (b := 6) (by omega) (by decide)) (br_t rfl ⟨rfl, I0⟩))
    · have h0' : 0 < h := by omega
      have st0 : st = 0 := by
        rcases Nat.eq_zero_or_pos st with q | q
        · exact q
        · have := (S1 q).1; omega
      obtain ⟨p, hp⟩ := re_p_ex A h0'
      have kd := ez_kd A X
      have pos : ∀ {r : Int32}, r = nI n → r < 0 → False := fun e w => by
        rw [e] at w
        exact nI_pos (by omega) w
      refine xx_put A (by omega) h0' hp X (fun r er rn => ?_) (fun e o l pl' ch' le' ne' sc' nl' ln' A' X' => ?_)
      · exact yy_put A (by omega) h0' kd X.2.2.2.1 X.2.2.1 hp (fun r' er' _ => ⟨er'.trans er.symm, I0⟩) (fun e => (pos (er.trans e) rn).elim)
      · refine yy_put A (by omega) h0' kd X.2.2.2.1 X.2.2.1 hp (fun r' er' rn => (pos (er'.trans e) rn).elim) (fun _ => ⟨rfl, ?_⟩)
        exact i_in (en := en) ⟨A', X', l1, l2, m1, m2, s, fun w => by omega, fun w => by omega⟩
end
section
/-! ===== the class: one node of a pass ===== -/
theorem so_b1 : vp_nar .boolean 1 = nI 1 := by rfl
theorem so_b0 : vp_nar .boolean 0 = nI 0 := by rfl
section
variable {f_cellLimit f_callLimit f_closureLimit f_nodes f_holes f_lambdas f_stageReached f_grown f_codeLength f_runningEngine f_ending f_callCount f_closureCount f_frame f_waitingCount : Int32} {a_kinds a_operands a_parents a_places a_children a_levels a_nests a_scopes a_nodeLambdas a_lambdaNodes a_liveNodes a_nodeFlows a_paramFlows a_codeOps a_codeNodes a_codeTargets a_branchSpots a_entries a_frameReturns a_closureLambdas a_records a_calledSets : Nat → Int32} {a_closureValues a_frameValues a_waiting : Nat → Int64}
variable {cs n L : Nat} {K P N Lv S O B : Nat → Nat} {t0 t : so_S}
theorem xx_addLive {post : SX → Prop} {i : Nat} (hn : n ≤ 48) (hi : i < n) (X : so_X n L t a_liveNodes a_nodeFlows a_paramFlows) (G : so_gr f_grown t0 t) (hpost : ∀ lv g, so_X n L (so_lv t i) lv a_nodeFlows a_paramFlows → so_gr g t0 (so_lv t i) → post (f_cellLimit, f_callLimit, f_closureLimit, f_nodes, f_holes, f_lambdas, f_stageReached, g, f_codeLength, f_runningEngine, f_ending, f_callCount, f_closureCount, f_frame, f_waitingCount, a_kinds, a_operands, a_parents, a_places, a_children, a_levels, a_nests, a_scopes, a_nodeLambdas, a_lambdaNodes, lv, a_nodeFlows, a_paramFlows, a_codeOps, a_codeNodes, a_codeTargets, a_branchSpots, a_entries, a_frameReturns, a_frameValues, a_closureLambdas, a_closureValues, a_waiting, a_records, a_calledSets)) : wpX_addLive post (f_cellLimit, f_callLimit, f_closureLimit, f_nodes, f_holes, f_lambdas, f_stageReached, f_grown, f_codeLength, f_runningEngine, f_ending, f_callCount, f_closureCount, f_frame, f_waitingCount, a_kinds, a_operands, a_parents, a_places, a_children, a_levels, a_nests, a_scopes, a_nodeLambdas, a_lambdaNodes, a_liveNodes, a_nodeFlows, a_paramFlows, a_codeOps, a_codeNodes, a_codeTargets, a_branchSpots, a_entries, a_frameReturns, a_frameValues, a_closureLambdas, a_closureValues, a_waiting, a_records, a_calledSets) (nI i) := by
  have v := vp_in_nI (n := i) (N := 48) (by omega) (by omega)
  refine ⟨v, ?_⟩
  rw [nI_clamp (by omega), (X.1 i hi).1]
  have h1 := G.2.1 i
  by_cases z : t.1 i = 1
  · refine br_f (nI_ne0 (by omega) (by omega)) (hpost a_liveNodes f_grown ?_ ((so_gr_lv G).1 z))
    rw [so_lv_id z]; exact X
  · have z0 : t.1 i = 0 := by omega
    refine br_t (by rw [z0]; rfl) ⟨v, nm_e ?_⟩
    rw [so_b1]
    exact hpost _ _ (so_X_lv X i) ((so_gr_lv G).2 z)
theorem xx_addFlow {post : SX → Prop} {i m : Nat} (hn : n ≤ 48) (hi : i < n) (hm : m < 2 ^ 31) (X : so_X n L t a_liveNodes a_nodeFlows a_paramFlows) (G : so_gr f_grown t0 t) (hpost : ∀ fl g, so_X n L (so_fl t i m) a_liveNodes fl a_paramFlows → so_gr g t0 (so_fl t i m) → post (f_cellLimit, f_callLimit, f_closureLimit, f_nodes, f_holes, f_lambdas, f_stageReached, g, f_codeLength, f_runningEngine, f_ending, f_callCount, f_closureCount, f_frame, f_waitingCount, a_kinds, a_operands, a_parents, a_places, a_children, a_levels, a_nests, a_scopes, a_nodeLambdas, a_lambdaNodes, a_liveNodes, fl, a_paramFlows, a_codeOps, a_codeNodes, a_codeTargets, a_branchSpots, a_entries, a_frameReturns, a_frameValues, a_closureLambdas, a_closureValues, a_waiting, a_records, a_calledSets)) : wpX_addFlow post (f_cellLimit, f_callLimit, f_closureLimit, f_nodes, f_holes, f_lambdas, f_stageReached, f_grown, f_codeLength, f_runningEngine, f_ending, f_callCount, f_closureCount, f_frame, f_waitingCount, a_kinds, a_operands, a_parents, a_places, a_children, a_levels, a_nests, a_scopes, a_nodeLambdas, a_lambdaNodes, a_liveNodes, a_nodeFlows, a_paramFlows, a_codeOps, a_codeNodes, a_codeTargets, a_branchSpots, a_entries, a_frameReturns, a_frameValues, a_closureLambdas, a_closureValues, a_waiting, a_records, a_calledSets) (nI i) (nI m) := by
  have v := vp_in_nI (n := i) (N := 48) (by omega) (by omega)
  refine ⟨v, ?_⟩
  rw [nI_clamp (by omega), (X.1 i hi).2]
  by_cases z : so_sub m (t.2.1 i)
  · refine br_t ((bi_new hm).mpr z) (hpost a_nodeFlows f_grown ?_ ((so_gr_fl G).1 z))
    rw [so_fl_id z]; exact X
  · refine br_f (fun w => z ((bi_new hm).mp w)) ⟨v, v, nm_e ?_⟩
    exact hpost _ _ (so_X_fl X i m (bi_or _ _)) ((so_gr_fl G).2 z)
theorem xx_addParamFlow {post : SX → Prop} {i m : Nat} (hL : L ≤ 16) (hi : i < L) (hm : m < 2 ^ 31) (X : so_X n L t a_liveNodes a_nodeFlows a_paramFlows) (G : so_gr f_grown t0 t) (hpost : ∀ pf g, so_X n L (so_pa t i m) a_liveNodes a_nodeFlows pf → so_gr g t0 (so_pa t i m) → post (f_cellLimit, f_callLimit, f_closureLimit, f_nodes, f_holes, f_lambdas, f_stageReached, g, f_codeLength, f_runningEngine, f_ending, f_callCount, f_closureCount, f_frame, f_waitingCount, a_kinds, a_operands, a_parents, a_places, a_children, a_levels, a_nests, a_scopes, a_nodeLambdas, a_lambdaNodes, a_liveNodes, a_nodeFlows, pf, a_codeOps, a_codeNodes, a_codeTargets, a_branchSpots, a_entries, a_frameReturns, a_frameValues, a_closureLambdas, a_closureValues, a_waiting, a_records, a_calledSets)) : wpX_addParamFlow post (f_cellLimit, f_callLimit, f_closureLimit, f_nodes, f_holes, f_lambdas, f_stageReached, f_grown, f_codeLength, f_runningEngine, f_ending, f_callCount, f_closureCount, f_frame, f_waitingCount, a_kinds, a_operands, a_parents, a_places, a_children, a_levels, a_nests, a_scopes, a_nodeLambdas, a_lambdaNodes, a_liveNodes, a_nodeFlows, a_paramFlows, a_codeOps, a_codeNodes, a_codeTargets, a_branchSpots, a_entries, a_frameReturns, a_frameValues, a_closureLambdas, a_closureValues, a_waiting, a_records, a_calledSets) (nI i) (nI m) := by
  have v := vp_in_nI (n := i) (N := 16) (by omega) (by omega)
  refine ⟨v, ?_⟩
  rw [nI_clamp (by omega), X.2 i hi]
  by_cases z : so_sub m (t.2.2 i)
  · refine br_t ((bi_new hm).mpr z) (hpost a_paramFlows f_grown ?_ ((so_gr_pa G).1 z))
    rw [so_pa_id z]; exact X
  · refine br_f (fun w => z ((bi_new hm).mp w)) ⟨v, v, nm_e ?_⟩
    exact hpost _ _ (so_X_pa X i m (bi_or _ _)) ((so_gr_pa G).2 z)
/-- the loop over the lambdas of a call -/
theorem xx_growCall_l {post : SX → Prop} {m c0 c1 : Nat} {t1 : so_S} (A : re_A cs n 0 L K P N Lv S O B) (XT : re_X n K P N Lv S O B a_kinds a_operands a_parents a_places a_children a_levels a_nests a_scopes a_nodeLambdas a_lambdaNodes) (hm : m < n) (h0 : c0 < n) (h1 : c1 < n) (R : so_R n L t1)
    (hpost : ∀ lv fl pf g, so_X n L (so_lp c0 c1 m (re_bd K n) t1 L) lv fl pf → so_gr g t0 (so_lp c0 c1 m (re_bd K n) t1 L) → post (f_cellLimit, f_callLimit, f_closureLimit, f_nodes, f_holes, (nI L), f_stageReached, g, f_codeLength, f_runningEngine, f_ending, f_callCount, f_closureCount, f_frame, f_waitingCount, a_kinds, a_operands, a_parents, a_places, a_children, a_levels, a_nests, a_scopes, a_nodeLambdas, a_lambdaNodes, lv, fl, pf, a_codeOps, a_codeNodes, a_codeTargets, a_branchSpots, a_entries, a_frameReturns, a_frameValues, a_closureLambdas, a_closureValues, a_waiting, a_records, a_calledSets)) :
    ∀ d l f g lv fl pf, l + d = L → d < f → so_X n L (so_lp c0 c1 m (re_bd K n) t1 l) lv fl pf → so_gr g t0 (so_lp c0 c1 m (re_bd K n) t1 l) → wX_growCall_37 post (nI m) (nI c0) (nI c1) f (nI l) f_cellLimit f_callLimit f_closureLimit f_nodes f_holes (nI L) f_stageReached g f_codeLength f_runningEngine f_ending f_callCount f_closureCount f_frame f_waitingCount a_kinds a_operands a_parents a_places a_children a_levels a_nests a_scopes a_nodeLambdas a_lambdaNodes lv fl pf a_codeOps a_codeNodes a_codeTargets a_branchSpots a_entries a_frameReturns a_frameValues a_closureLambdas a_closureValues a_waiting a_records a_calledSets := by
  obtain ⟨hn, _, hL⟩ : n ≤ 48 ∧ (0 : Nat) ≤ 48 ∧ L ≤ 16 := by
    have := A.2.2.1
    have := A.2.2.2.1
    exact ⟨by omega, by omega, A.2.2.2.2.2.1⟩
  have hLn := A.2.2.2.2.1
  have hbd : ∀ l, l < L → re_bd K n l < n ∧ a_lambdaNodes l = nI (tr_ln K n l) ∧ tr_ln K n l < n ∧ a_children (tr_ln K n l * 3) = nI (re_bd K n l) := fun l hl => by
    obtain ⟨q1, q2, q3⟩ := tr_ln_of (K := K) (n := n) (l := l) (by omega)
    obtain ⟨r1, r2, _⟩ := re_kid0 A XT q1 (by omega)
    have e := XT.2.2.2.2.2.2.2.2 _ q1 q2
    rw [q3] at e
    exact ⟨r1, e, q1, r2⟩
  intro d
  induction d with
  | zero =>
    intro l f g lv fl pf hl hf X G
    obtain ⟨f, rfl⟩ : ∃ f', f = f' + 1 := ⟨f - 1, by omega⟩
    have e : l = L := by omega
    subst e
    exact br_t (nI_le (Nat.le_refl _) (by omega)) (hpost lv fl pf g X G)
  | succ d ih =>
    intro l f g lv fl pf hl hf X G
    obtain ⟨f, rfl⟩ : ∃ f', f = f' + 1 := ⟨f - 1, by omega⟩
    have Rl := so_R_lp (c0 := c0) (c1 := c1) (m := m) (bd := re_bd K n) R hm (fun l hl => (hbd l hl).1) l (by omega)
    have ms := fun i => so_ms_lt hL (Rl.2.2.2.1 i)
    obtain ⟨b1, b2, b3, b4⟩ := hbd l (by omega)
    refine br_f (nI_ge (by omega) (by omega)) ⟨vp_in_nI (by omega) (by omega), ?_⟩
    rw [nI_clamp (by omega), (X.1 c0 h0).2]
    have step : so_lp c0 c1 m (re_bd K n) t1 (l + 1) = so_st c0 c1 m (re_bd K n) (so_lp c0 c1 m (re_bd K n) t1 l) l := rfl
    have m0 := ms c0
    have m1 := ms c1
    have mb := ms (re_bd K n l)
    cases z : ((so_lp c0 c1 m (re_bd K n) t1 l).2.1 c0).testBit l with
    | false =>
      refine br_t ((bi_test (by omega) (by omega)).mpr z) (nm_r (nI_1 l) ?_)
      have e : so_lp c0 c1 m (re_bd K n) t1 (l + 1) = so_lp c0 c1 m (re_bd K n) t1 l := by
        rw [step]
        unfold so_st
        rw [if_neg (by rw [z]; decide)]
      exact ih (l + 1) f g lv fl pf (by omega) (by omega) (by rw [e]; exact X) (by rw [e]; exact G)
    | true =>
      have e : so_lp c0 c1 m (re_bd K n) t1 (l + 1) = so_fl (so_pa (so_lv (so_lp c0 c1 m (re_bd K n) t1 l) (re_bd K n l)) l ((so_lp c0 c1 m (re_bd K n) t1 l).2.1 c1)) m ((so_lp c0 c1 m (re_bd K n) t1 l).2.1 (re_bd K n l)) := by
        rw [step]
        unfold so_st
        rw [if_pos z]
      refine br_f (fun w => by rw [(bi_test (by omega) (by omega)).mp w] at z; cases z) ?_
      refine xx_bodyOf (by omega) (by omega) b2 ?_
      rw [b4]
      refine xx_addLive hn b1 X G (fun lv1 g1 X1 G1 => ⟨vp_in_nI (by omega) (by omega), ?_⟩)
      rw [nI_clamp (n := c1) (by omega), (X.1 c1 h1).2]
      refine xx_addParamFlow hL (by omega) (by omega) X1 G1 (fun pf2 g2 X2 G2 => ⟨vp_in_nI (by omega) (by omega), ?_⟩)
      rw [nI_clamp (n := re_bd K n l) (by omega), (X.1 _ b1).2]
      refine xx_addFlow hn hm (by omega) X2 G2 (fun fl3 g3 X3 G3 => nm_r (nI_1 l) ?_)
      exact ih (l + 1) f g3 lv1 fl3 pf2 (by omega) (by omega) (by rw [e]; exact X3) (by rw [e]; exact G3)
/-- a node of a pass -/
theorem xx_growNode {post : SX → Prop} {m : Nat} (A : re_A cs n 0 L K P N Lv S O B) (XT : re_X n K P N Lv S O B a_kinds a_operands a_parents a_places a_children a_levels a_nests a_scopes a_nodeLambdas a_lambdaNodes) (hm : m < n) (R : so_R n L t) (X : so_X n L t a_liveNodes a_nodeFlows a_paramFlows) (G : so_gr f_grown t0 t)
    (hpost : ∀ lv fl pf g, so_X n L (so_g K (tr_e P n) B (tr_lc K) (re_bd K n) L t m) lv fl pf → so_gr g t0 (so_g K (tr_e P n) B (tr_lc K) (re_bd K n) L t m) → post (f_cellLimit, f_callLimit, f_closureLimit, (nI n), f_holes, (nI L), f_stageReached, g, f_codeLength, f_runningEngine, f_ending, f_callCount, f_closureCount, f_frame, f_waitingCount, a_kinds, a_operands, a_parents, a_places, a_children, a_levels, a_nests, a_scopes, a_nodeLambdas, a_lambdaNodes, lv, fl, pf, a_codeOps, a_codeNodes, a_codeTargets, a_branchSpots, a_entries, a_frameReturns, a_frameValues, a_closureLambdas, a_closureValues, a_waiting, a_records, a_calledSets)) :
    wpX_growNode post (f_cellLimit, f_callLimit, f_closureLimit, (nI n), f_holes, (nI L), f_stageReached, f_grown, f_codeLength, f_runningEngine, f_ending, f_callCount, f_closureCount, f_frame, f_waitingCount, a_kinds, a_operands, a_parents, a_places, a_children, a_levels, a_nests, a_scopes, a_nodeLambdas, a_lambdaNodes, a_liveNodes, a_nodeFlows, a_paramFlows, a_codeOps, a_codeNodes, a_codeTargets, a_branchSpots, a_entries, a_frameReturns, a_frameValues, a_closureLambdas, a_closureValues, a_waiting, a_records, a_calledSets) (nI m) := by
  have hn : n ≤ 48 := by have := A.2.2.1; have := A.2.2.2.1; omega
  have hL : L ≤ 16 := A.2.2.2.2.2.1
  have hLn := A.2.2.2.2.1
  have k6 := (A.2.2.2.2.2.2.2.2.2.1 m hm).1
  have vm : vp_in (nI m) 48 := vp_in_nI (by omega) (by omega)
  have hcm := nI_clamp (n := m) (by omega)
  have ms := fun i => so_ms_lt hL (R.2.2.2.1 i)
  have mp := fun i => so_ms_lt hL (R.2.2.2.2 i)
  have x8 := XT.2.2.2.2.2.2.2.1 m hm
  have hc : K m = 0 ∨ K m = 1 ∨ K m = 2 ∨ K m = 3 ∨ K m = 4 ∨ K m = 5 ∨ K m = 6 := by omega
  have arith : 4 ≤ K m → K m ≠ 6 → wX_growNode_109 post (nI m) f_cellLimit f_callLimit f_closureLimit (nI n) f_holes (nI L) f_stageReached f_grown f_codeLength f_runningEngine f_ending f_callCount f_closureCount f_frame f_waitingCount a_kinds a_operands a_parents a_places a_children a_levels a_nests a_scopes a_nodeLambdas a_lambdaNodes a_liveNodes a_nodeFlows a_paramFlows a_codeOps a_codeNodes a_codeTargets a_branchSpots a_entries a_frameReturns a_frameValues a_closureLambdas a_closureValues a_waiting a_records a_calledSets := fun ka kb => by
    obtain ⟨r1, r2, _⟩ := re_kid0 A XT hm (by omega)
    obtain ⟨s1, s2, _⟩ := re_kid1 A XT hm (by omega)
    have e : so_g K (tr_e P n) B (tr_lc K) (re_bd K n) L t m = so_fl (so_lv (so_lv t (m + 1)) (tr_e P n (m + 1))) m (t.2.1 (m + 1) &&& t.2.1 (tr_e P n (m + 1)) &&& 65536) := by
      unfold so_g
      rw [if_neg (by omega), if_neg (by omega), if_neg (by omega), if_neg kb, if_neg (by omega)]
    rw [e] at hpost
    unfold wX_growNode_109 wpX_growArithmetic
    refine xx_childAt (k := 0) (by omega) (by omega) ?_
    rw [r2]
    refine xx_childAt (k := 1) (by omega) (by omega) ?_
    rw [s2]
    refine xx_addLive hn r1 X G (fun lv1 g1 X1 G1 => ?_)
    refine xx_addLive hn s1 X1 G1 (fun lv2 g2 X2 G2 => ⟨vp_in_nI (by omega) (by omega), vp_in_nI (by omega) (by omega), ?_⟩)
    have m1 := ms (m + 1)
    rw [nI_clamp (by omega), nI_clamp (by omega), (X.1 _ r1).2, (X.1 _ s1).2, bi_and, show (65536 : Int32) = nI 65536 from rfl, bi_and]
    refine xx_addFlow hn hm ?_ X2 G2 (fun fl3 g3 X3 G3 => hpost lv2 fl3 a_paramFlows g3 X3 G3)
    exact Nat.lt_of_le_of_lt (Nat.le_trans Nat.and_le_left Nat.and_le_left) (by omega)
  refine ⟨vm, ?_⟩
  rw [hcm]
  refine nm_r (XT.1 m hm) ?_
  rcases hc with k | k | k | k | k | k | k
  · -- VAR
    have e : so_g K (tr_e P n) B (tr_lc K) (re_bd K n) L t m = so_fl t m (t.2.2 (B m)) := by
      unfold so_g
      rw [if_pos k]
    rw [e] at hpost
    have hB : B m < L := by
      obtain ⟨a1, b, b1, b2, b3, b4, b5⟩ := A.2.2.2.2.2.2.2.2.2.2 m hm k
      rw [b4, hLn]
      exact tr_lc_lt (by omega) b2
    rw [k]
    refine br_f (by decide) (br_f (by decide) (br_t rfl ⟨vm, ?_⟩))
    rw [x8.1 k, nI_clamp (by omega), X.2 _ hB]
    have := mp (B m)
    exact ⟨vp_in_nI (by omega) (by omega), xx_addFlow hn hm (by omega) X G (fun fl g X1 G1 => hpost a_liveNodes fl a_paramFlows g X1 G1)⟩
  · -- NUM
    have e : so_g K (tr_e P n) B (tr_lc K) (re_bd K n) L t m = so_fl t m 65536 := by
      unfold so_g
      rw [if_neg (by omega), if_pos k]
    rw [e] at hpost
    rw [k]
    refine br_f (by decide) (br_f (by decide) (br_f (by decide) (br_t rfl ?_)))
    exact xx_addFlow (m := 65536) hn hm (by decide) X G (fun fl g X1 G1 => hpost a_liveNodes fl a_paramFlows g X1 G1)
  · -- LAM
    have e : so_g K (tr_e P n) B (tr_lc K) (re_bd K n) L t m = so_fl t m (2 ^ tr_lc K m) := by
      unfold so_g
      rw [if_neg (by omega), if_neg (by omega), if_pos k]
    rw [e] at hpost
    have hlc : tr_lc K m < L := by rw [hLn]; exact tr_lc_lt hm k
    have hpw : 2 ^ tr_lc K m < 2 ^ 16 := Nat.pow_lt_pow_right (by decide) (by omega)
    rw [k]
    refine br_f (by decide) (br_f (by decide) (br_f (by decide) (br_f (by decide) (br_t rfl ⟨vm, ?_⟩))))
    rw [x8.2.1 k, bi_shl _ (by omega)]
    exact xx_addFlow hn hm (by omega) X G (fun fl g X1 G1 => hpost a_liveNodes fl a_paramFlows g X1 G1)
  · -- APP
    rw [k]
    refine br_f (by decide) (br_f (by decide) (br_f (by decide) (br_f (by decide) (br_f (by decide) (br_t rfl ?_)))))
    obtain ⟨r1, r2, _⟩ := re_kid0 A XT hm (by omega)
    obtain ⟨s1, s2, _⟩ := re_kid1 A XT hm (by omega)
    have e : so_g K (tr_e P n) B (tr_lc K) (re_bd K n) L t m = (if t.2.1 (tr_e P n (m + 1)) = 0 then so_lv (so_lv t (m + 1)) (tr_e P n (m + 1)) else so_lp (m + 1) (tr_e P n (m + 1)) m (re_bd K n) (so_lv (so_lv t (m + 1)) (tr_e P n (m + 1))) L) := by
      unfold so_g
      rw [if_neg (by omega), if_neg (by omega), if_neg (by omega), if_neg (by omega), if_pos k]
    rw [e] at hpost
    unfold wpX_growCall
    refine xx_childAt (k := 0) (by omega) (by omega) ?_
    rw [r2]
    refine xx_childAt (k := 1) (by omega) (by omega) ?_
    rw [s2]
    refine xx_addLive hn r1 X G (fun lv1 g1 X1 G1 => ?_)
    refine xx_addLive hn s1 X1 G1 (fun lv2 g2 X2 G2 => ⟨vp_in_nI (by omega) (by omega), ?_⟩)
    have m1 := ms (tr_e P n (m + 1))
    rw [nI_clamp (by omega), (X.1 _ s1).2]
    by_cases z : t.2.1 (tr_e P n (m + 1)) = 0
    · rw [if_pos z] at hpost
      rw [z]
      exact br_t rfl (hpost lv2 a_nodeFlows a_paramFlows g2 X2 G2)
    · rw [if_neg z] at hpost
      refine br_f (nI_ne0 (by omega) (by omega)) ⟨L + 1, ?_⟩
      exact xx_growCall_l A XT hm r1 s1 (so_R_lv (so_R_lv R r1) s1) hpost L 0 (L + 1) g2 lv2 a_nodeFlows a_paramFlows (by omega) (by omega) X2 G2
  · -- ADD
    have ar := arith (by omega) (by omega)
    rw [k]
    exact br_f (by decide) (br_f (by decide) (br_f (by decide) (br_f (by decide) (br_f (by decide) (br_f (by decide) (br_t rfl ar))))))
  · -- SUB
    have ar := arith (by omega) (by omega)
    rw [k]
    exact br_f (by decide) (br_f (by decide) (br_f (by decide) (br_f (by decide) (br_f (by decide) (br_f (by decide) (br_f (by decide) (br_t rfl ar)))))))
  · -- IF0
    rw [k]
    refine br_f (by decide) (br_f (by decide) (br_f (by decide) (br_f (by decide) (br_f (by decide) (br_f (by decide) (br_f (by decide) (br_f (by decide) (br_t rfl ?_))))))))
    obtain ⟨r1, r2, _⟩ := re_kid0 A XT hm (by omega)
    obtain ⟨s1, s2, _⟩ := re_kid1 A XT hm (by omega)
    obtain ⟨w1, w2, _⟩ := re_kid2 A XT hm k
    have e : so_g K (tr_e P n) B (tr_lc K) (re_bd K n) L t m = (if (t.2.1 (m + 1)).testBit 16 = true then so_fl (so_lv (so_lv (so_lv t (m + 1)) (tr_e P n (m + 1))) (tr_e P n (tr_e P n (m + 1)))) m (t.2.1 (tr_e P n (m + 1)) ||| t.2.1 (tr_e P n (tr_e P n (m + 1)))) else so_lv t (m + 1)) := by
      unfold so_g
      rw [if_neg (by omega), if_neg (by omega), if_neg (by omega), if_pos k]
    rw [e] at hpost
    unfold wpX_growBranches
    refine xx_childAt (k := 0) (by omega) (by omega) ?_
    rw [r2]
    refine xx_addLive hn r1 X G (fun lv1 g1 X1 G1 => ⟨vp_in_nI (by omega) (by omega), ?_⟩)
    have m1 := ms (m + 1)
    have m2 := ms (tr_e P n (m + 1))
    have m3 := ms (tr_e P n (tr_e P n (m + 1)))
    rw [nI_clamp (by omega), (X.1 _ r1).2]
    cases z : (t.2.1 (m + 1)).testBit 16 with
    | false =>
      rw [if_neg (by rw [z]; decide)] at hpost
      exact br_t ((bi_16 (by omega)).mpr z) (hpost lv1 a_nodeFlows a_paramFlows g1 X1 G1)
    | true =>
      rw [if_pos z] at hpost
      refine br_f (fun w => by rw [(bi_16 (by omega)).mp w] at z; cases z) ?_
      refine xx_childAt (k := 1) (by omega) (by omega) ?_
      rw [s2]
      refine xx_childAt (k := 2) (by omega) (by omega) ?_
      rw [w2]
      refine xx_addLive hn s1 X1 G1 (fun lv2 g2 X2 G2 => ?_)
      refine xx_addLive hn w1 X2 G2 (fun lv3 g3 X3 G3 => ⟨vp_in_nI (by omega) (by omega), vp_in_nI (by omega) (by omega), ?_⟩)
      rw [nI_clamp (by omega), nI_clamp (by omega), (X.1 _ s1).2, (X.1 _ w1).2, bi_or]
      refine xx_addFlow hn hm ?_ X3 G3 (fun fl4 g4 X4 G4 => hpost lv3 fl4 a_paramFlows g4 X4 G4)
      have : t.2.1 (tr_e P n (m + 1)) ||| t.2.1 (tr_e P n (tr_e P n (m + 1))) < 2 ^ 17 := Nat.or_lt_two_pow m2 m3
      omega
end
end
section
/-! ===== the class: passes, solve ===== -/
/-- the number of live nodes -/
def so_n (n : Nat) (t : so_S) : Nat := tr_sum (fun i => t.1 i) n
section
variable {f_cellLimit f_callLimit f_closureLimit f_nodes f_holes f_lambdas f_stageReached f_grown f_codeLength f_runningEngine f_ending f_callCount f_closureCount f_frame f_waitingCount : Int32} {a_kinds a_operands a_parents a_places a_children a_levels a_nests a_scopes a_nodeLambdas a_lambdaNodes a_liveNodes a_nodeFlows a_paramFlows a_codeOps a_codeNodes a_codeTargets a_branchSpots a_entries a_frameReturns a_closureLambdas a_records a_calledSets : Nat → Int32} {a_closureValues a_frameValues a_waiting : Nat → Int64}
variable {cs n L : Nat} {K P N Lv S O B : Nat → Nat} {t0 t : so_S}
theorem xx_growOnce {post : SX → Prop} (A : re_A cs n 0 L K P N Lv S O B) (XT : re_X n K P N Lv S O B a_kinds a_operands a_parents a_places a_children a_levels a_nests a_scopes a_nodeLambdas a_lambdaNodes) (R : so_R n L t) (X : so_X n L t a_liveNodes a_nodeFlows a_paramFlows)
    (hpost : ∀ lv fl pf g, so_X n L (so_G K (tr_e P n) B (tr_lc K) (re_bd K n) L n t) lv fl pf → so_gr g t (so_G K (tr_e P n) B (tr_lc K) (re_bd K n) L n t) → post (f_cellLimit, f_callLimit, f_closureLimit, (nI n), f_holes, (nI L), f_stageReached, g, f_codeLength, f_runningEngine, f_ending, f_callCount, f_closureCount, f_frame, f_waitingCount, a_kinds, a_operands, a_parents, a_places, a_children, a_levels, a_nests, a_scopes, a_nodeLambdas, a_lambdaNodes, lv, fl, pf, a_codeOps, a_codeNodes, a_codeTargets, a_branchSpots, a_entries, a_frameReturns, a_frameValues, a_closureLambdas, a_closureValues, a_waiting, a_records, a_calledSets)) :
    wpX_growOnce post (f_cellLimit, f_callLimit, f_closureLimit, (nI n), f_holes, (nI L), f_stageReached, f_grown, f_codeLength, f_runningEngine, f_ending, f_callCount, f_closureCount, f_frame, f_waitingCount, a_kinds, a_operands, a_parents, a_places, a_children, a_levels, a_nests, a_scopes, a_nodeLambdas, a_lambdaNodes, a_liveNodes, a_nodeFlows, a_paramFlows, a_codeOps, a_codeNodes, a_codeTargets, a_branchSpots, a_entries, a_frameReturns, a_frameValues, a_closureLambdas, a_closureValues, a_waiting, a_records, a_calledSets) := by
  have hn : n ≤ 48 := by have := A.2.2.1; have := A.2.2.2.1; omega
  have T := re_so_T A (re_bd_is (K := K) (n := n))
  have go : ∀ d i f g lv fl pf, i + d = n → d < f → so_X n L (so_ps K (tr_e P n) B (tr_lc K) (re_bd K n) L t i) lv fl pf → so_gr g t (so_ps K (tr_e P n) B (tr_lc K) (re_bd K n) L t i) → wX_growOnce_7 post f (nI i) f_cellLimit f_callLimit f_closureLimit (nI n) f_holes (nI L) f_stageReached g f_codeLength f_runningEngine f_ending f_callCount f_closureCount f_frame f_waitingCount a_kinds a_operands a_parents a_places a_children a_levels a_nests a_scopes a_nodeLambdas a_lambdaNodes lv fl pf a_codeOps a_codeNodes a_codeTargets a_branchSpots a_entries a_frameReturns a_frameValues a_closureLambdas a_closureValues a_waiting a_records a_calledSets := by
    intro d
    induction d with
    | zero =>
      intro i f g lv fl pf hi hf X G
      obtain ⟨f, rfl⟩ : ∃ f', f = f' + 1 := ⟨f - 1, by omega⟩
      have e : i = n := by omega
      subst e
      exact br_t (nI_le (Nat.le_refl _) (by omega)) (hpost lv fl pf g X G)
    | succ d ih =>
      intro i f g lv fl pf hi hf X G
      obtain ⟨f, rfl⟩ : ∃ f', f = f' + 1 := ⟨f - 1, by omega⟩
      have Ri := so_R_ps T R i (by omega)
      have e : so_ps K (tr_e P n) B (tr_lc K) (re_bd K n) L t (i + 1) = (if (so_ps K (tr_e P n) B (tr_lc K) (re_bd K n) L t i).1 i = 1 then so_g K (tr_e P n) B (tr_lc K) (re_bd K n) L (so_ps K (tr_e P n) B (tr_lc K) (re_bd K n) L t i) i else so_ps K (tr_e P n) B (tr_lc K) (re_bd K n) L t i) := rfl
      refine br_f (nI_ge (by omega) (by omega)) ⟨vp_in_nI (by omega) (by omega), ?_⟩
      rw [nI_clamp (by omega), (X.1 i (by omega)).1]
      have h1 := Ri.1 i
      by_cases z : (so_ps K (tr_e P n) B (tr_lc K) (re_bd K n) L t i).1 i = 1
      · rw [if_pos z] at e
        refine br_f (nI_ne0 (by omega) (by omega)) ?_
        refine xx_growNode A XT (by omega) Ri X G (fun lv1 fl1 pf1 g1 X1 G1 => nm_r (nI_1 i) ?_)
        exact ih (i + 1) f g1 lv1 fl1 pf1 (by omega) (by omega) (by rw [e]; exact X1) (by rw [e]; exact G1)
      · rw [if_neg z] at e
        have z0 : (so_ps K (tr_e P n) B (tr_lc K) (re_bd K n) L t i).1 i = 0 := by omega
        refine br_t (by rw [z0]; rfl) (nm_r (nI_1 i) ?_)
        exact ih (i + 1) f g lv fl pf (by omega) (by omega) (by rw [e]; exact X) (by rw [e]; exact G)
  exact ⟨n + 1, go n 0 (n + 1) 0 a_liveNodes a_nodeFlows a_paramFlows (by omega) (by omega) X (so_gr_0 R.1)⟩
theorem xx_countLive {post : Int32 → Prop} (hn : n ≤ 48) (h01 : so_01 t) (X : so_X n L t a_liveNodes a_nodeFlows a_paramFlows) (hpost : post (nI (so_n n t))) : wpX_countLiveNodes post (f_cellLimit, f_callLimit, f_closureLimit, (nI n), f_holes, f_lambdas, f_stageReached, f_grown, f_codeLength, f_runningEngine, f_ending, f_callCount, f_closureCount, f_frame, f_waitingCount, a_kinds, a_operands, a_parents, a_places, a_children, a_levels, a_nests, a_scopes, a_nodeLambdas, a_lambdaNodes, a_liveNodes, a_nodeFlows, a_paramFlows, a_codeOps, a_codeNodes, a_codeTargets, a_branchSpots, a_entries, a_frameReturns, a_frameValues, a_closureLambdas, a_closureValues, a_waiting, a_records, a_calledSets) := by
  have go : ∀ d i f, i + d = n → d < f → wX_countLiveNodes_4 post f_cellLimit f_callLimit f_closureLimit (nI n) f_holes f_lambdas f_stageReached f_grown f_codeLength f_runningEngine f_ending f_callCount f_closureCount f_frame f_waitingCount a_kinds a_operands a_parents a_places a_children a_levels a_nests a_scopes a_nodeLambdas a_lambdaNodes a_liveNodes a_nodeFlows a_paramFlows a_codeOps a_codeNodes a_codeTargets a_branchSpots a_entries a_frameReturns a_frameValues a_closureLambdas a_closureValues a_waiting a_records a_calledSets f (nI (tr_sum (fun i => t.1 i) i)) (nI i) := by
    intro d
    induction d with
    | zero =>
      intro i f hi hf
      obtain ⟨f, rfl⟩ : ∃ f', f = f' + 1 := ⟨f - 1, by omega⟩
      have e : i = n := by omega
      subst e
      exact br_t (nI_le (Nat.le_refl _) (by omega)) hpost
    | succ d ih =>
      intro i f hi hf
      obtain ⟨f, rfl⟩ : ∃ f', f = f' + 1 := ⟨f - 1, by omega⟩
      have e : tr_sum (fun i => t.1 i) (i + 1) = tr_sum (fun i => t.1 i) i + t.1 i := rfl
      refine br_f (nI_ge (by omega) (by omega)) ⟨vp_in_nI (by omega) (by omega), ?_⟩
      rw [nI_clamp (by omega), (X.1 i (by omega)).1]
      have h1 := h01 i
      by_cases z : t.1 i = 1
      · rw [z] at e ⊢
        refine br_f (by decide) (nm_r (nI_1 _) (nm_r (nI_1 i) ?_))
        rw [← e]
        exact ih (i + 1) f (by omega) (by omega)
      · have z0 : t.1 i = 0 := by omega
        rw [z0] at e ⊢
        refine br_t rfl (nm_r (nI_1 i) ?_)
        have e' := e.trans (Nat.add_zero _)
        rw [← e']
        exact ih (i + 1) f (by omega) (by omega)
  exact ⟨n + 1, go n 0 (n + 1) (by omega) (by omega)⟩
theorem xx_startSolution {post : SX → Prop} (hn : n ≤ 48) (hL : L ≤ 16) (h0 : 0 < n) (hpost : ∀ lv fl pf, so_X n L so_t0 lv fl pf → post (f_cellLimit, f_callLimit, f_closureLimit, (nI n), f_holes, (nI L), f_stageReached, f_grown, f_codeLength, f_runningEngine, f_ending, f_callCount, f_closureCount, f_frame, f_waitingCount, a_kinds, a_operands, a_parents, a_places, a_children, a_levels, a_nests, a_scopes, a_nodeLambdas, a_lambdaNodes, lv, fl, pf, a_codeOps, a_codeNodes, a_codeTargets, a_branchSpots, a_entries, a_frameReturns, a_frameValues, a_closureLambdas, a_closureValues, a_waiting, a_records, a_calledSets)) : wpX_startSolution post (f_cellLimit, f_callLimit, f_closureLimit, (nI n), f_holes, (nI L), f_stageReached, f_grown, f_codeLength, f_runningEngine, f_ending, f_callCount, f_closureCount, f_frame, f_waitingCount, a_kinds, a_operands, a_parents, a_places, a_children, a_levels, a_nests, a_scopes, a_nodeLambdas, a_lambdaNodes, a_liveNodes, a_nodeFlows, a_paramFlows, a_codeOps, a_codeNodes, a_codeTargets, a_branchSpots, a_entries, a_frameReturns, a_frameValues, a_closureLambdas, a_closureValues, a_waiting, a_records, a_calledSets) := by
  have go2 : ∀ d i f lv fl pf, i + d = L → d < f → (∀ j, j < n → lv j = nI 0 ∧ fl j = nI 0) → (∀ j, j < i → pf j = nI 0) → wX_startSolution_32 post f_cellLimit f_callLimit f_closureLimit (nI n) f_holes (nI L) f_stageReached f_grown f_codeLength f_runningEngine f_ending f_callCount f_closureCount f_frame f_waitingCount f (nI i) a_kinds a_operands a_parents a_places a_children a_levels a_nests a_scopes a_nodeLambdas a_lambdaNodes lv fl pf a_codeOps a_codeNodes a_codeTargets a_branchSpots a_entries a_frameReturns a_frameValues a_closureLambdas a_closureValues a_waiting a_records a_calledSets := by
    intro d
    induction d with
    | zero =>
      intro i f lv fl pf hi hf h1 h2
      obtain ⟨f, rfl⟩ : ∃ f', f = f' + 1 := ⟨f - 1, by omega⟩
      have e : i = L := by omega
      subst e
      refine br_t (nI_le (Nat.le_refl _) (by omega)) (nm_e (hpost _ _ _ ⟨fun j hj => ⟨?_, (h1 j hj).2⟩, h2⟩))
      rw [so_b1]
      show upd lv 0 (nI 1) j = nI (if j = 0 then 1 else 0)
      by_cases z : j = 0
      · rw [if_pos z, z, re_us]
      · rw [if_neg z, re_un z]; exact (h1 j hj).1
    | succ d ih =>
      intro i f lv fl pf hi hf h1 h2
      obtain ⟨f, rfl⟩ : ∃ f', f = f' + 1 := ⟨f - 1, by omega⟩
      refine br_f (nI_ge (by omega) (by omega)) ⟨vp_in_nI (by omega) (by omega), nm_e (nm_r (nI_1 i) ?_)⟩
      rw [nI_clamp (by omega)]
      refine ih (i + 1) f lv fl _ (by omega) (by omega) h1 (fun j hj => ?_)
      by_cases z : j = i
      · rw [z, re_us]; rfl
      · rw [re_un z]; exact h2 j (by omega)
  have go1 : ∀ d i f lv fl, i + d = n → d < f → (∀ j, j < i → lv j = nI 0 ∧ fl j = nI 0) → wX_startSolution_2 post f_cellLimit f_callLimit f_closureLimit (nI n) f_holes (nI L) f_stageReached f_grown f_codeLength f_runningEngine f_ending f_callCount f_closureCount f_frame f_waitingCount f (nI i) a_kinds a_operands a_parents a_places a_children a_levels a_nests a_scopes a_nodeLambdas a_lambdaNodes lv fl a_paramFlows a_codeOps a_codeNodes a_codeTargets a_branchSpots a_entries a_frameReturns a_frameValues a_closureLambdas a_closureValues a_waiting a_records a_calledSets := by
    intro d
    induction d with
    | zero =>
      intro i f lv fl hi hf h1
      obtain ⟨f, rfl⟩ : ∃ f', f = f' + 1 := ⟨f - 1, by omega⟩
      have e : i = n := by omega
      subst e
      exact br_t (nI_le (Nat.le_refl _) (by omega)) ⟨L + 1, go2 L 0 (L + 1) lv fl a_paramFlows (by omega) (by omega) h1 (fun j hj => absurd hj (Nat.not_lt_zero j))⟩
    | succ d ih =>
      intro i f lv fl hi hf h1
      obtain ⟨f, rfl⟩ : ∃ f', f = f' + 1 := ⟨f - 1, by omega⟩
      have v : vp_in (nI i) 48 := vp_in_nI (by omega) (by omega)
      refine br_f (nI_ge (by omega) (by omega)) ⟨v, nm_e ⟨v, nm_e (nm_r (nI_1 i) ?_)⟩⟩
      rw [nI_clamp (by omega), so_b0]
      refine ih (i + 1) f _ _ (by omega) (by omega) (fun j hj => ?_)
      by_cases z : j = i
      · rw [z, re_us, re_us]; exact ⟨rfl, rfl⟩
      · rw [re_un z, re_un z]; exact h1 j (by omega)
  exact ⟨n + 1, go1 n 0 (n + 1) a_liveNodes a_nodeFlows (by omega) (by omega) (fun j hj => absurd hj (Nat.not_lt_zero j))⟩
theorem xx_solve {post : Int32 → SX → Prop} {st : Nat} (hst : st ≤ 2) (A : re_A cs n 0 L K P N Lv S O B) (XT : re_X n K P N Lv S O B a_kinds a_operands a_parents a_places a_children a_levels a_nests a_scopes a_nodeLambdas a_lambdaNodes)
    (hpost : ∀ lv fl pf g, so_X n L (re_sol K P B n L) lv fl pf → post (nI (so_n n (re_sol K P B n L))) (f_cellLimit, f_callLimit, f_closureLimit, (nI n), (nI 0), (nI L), (nI (if st = 0 then 1 else st)), g, f_codeLength, f_runningEngine, f_ending, f_callCount, f_closureCount, f_frame, f_waitingCount, a_kinds, a_operands, a_parents, a_places, a_children, a_levels, a_nests, a_scopes, a_nodeLambdas, a_lambdaNodes, lv, fl, pf, a_codeOps, a_codeNodes, a_codeTargets, a_branchSpots, a_entries, a_frameReturns, a_frameValues, a_closureLambdas, a_closureValues, a_waiting, a_records, a_calledSets)) :
    wpX_solve post (f_cellLimit, f_callLimit, f_closureLimit, (nI n), (nI 0), (nI L), (nI st), f_grown, f_codeLength, f_runningEngine, f_ending, f_callCount, f_closureCount, f_frame, f_waitingCount, a_kinds, a_operands, a_parents, a_places, a_children, a_levels, a_nests, a_scopes, a_nodeLambdas, a_lambdaNodes, a_liveNodes, a_nodeFlows, a_paramFlows, a_codeOps, a_codeNodes, a_codeTargets, a_branchSpots, a_entries, a_frameReturns, a_frameValues, a_closureLambdas, a_closureValues, a_waiting, a_records, a_calledSets) := by
  have hn : n ≤ 48 := by have := A.2.2.1; have := A.2.2.2.1; omega
  have hL : L ≤ 16 := A.2.2.2.2.2.1
  have h0 := (re_full A).1
  have T := re_so_T A (re_bd_is (K := K) (n := n))
  have fin : ∀ lv fl pf g, so_X n L (re_sol K P B n L) lv fl pf → wX_solve_45 post f_cellLimit f_callLimit f_closureLimit (nI n) (nI 0) (nI L) (nI st) g f_codeLength f_runningEngine f_ending f_callCount f_closureCount f_frame f_waitingCount a_kinds a_operands a_parents a_places a_children a_levels a_nests a_scopes a_nodeLambdas a_lambdaNodes lv fl pf a_codeOps a_codeNodes a_codeTargets a_branchSpots a_entries a_frameReturns a_frameValues a_closureLambdas a_closureValues a_waiting a_records a_calledSets := fun lv fl pf g X => by
    have hp := hpost lv fl pf g X
    have h01 := (so_sol_R T h0).1
    by_cases z : st = 0
    · rw [if_pos z] at hp
      exact br_t (by rw [z]; rfl) (by unfold wX_solve_57; exact xx_countLive hn h01 X hp)
    · rw [if_neg z] at hp
      exact br_f (nI_ne0 (by omega) (by omega)) (by unfold wX_solve_57; exact xx_countLive hn h01 X hp)
  have go : ∀ d q f g lv fl pf, q + d = 1137 → d < f → (∀ j, j < q → so_G K (tr_e P n) B (tr_lc K) (re_bd K n) L n (so_it (so_G K (tr_e P n) B (tr_lc K) (re_bd K n) L n) so_t0 j) ≠ so_it (so_G K (tr_e P n) B (tr_lc K) (re_bd K n) L n) so_t0 j) → so_X n L (so_it (so_G K (tr_e P n) B (tr_lc K) (re_bd K n) L n) so_t0 q) lv fl pf → g = 1 → wX_solve_21 post f (nI q) f_cellLimit f_callLimit f_closureLimit (nI n) (nI 0) (nI L) (nI st) g f_codeLength f_runningEngine f_ending f_callCount f_closureCount f_frame f_waitingCount a_kinds a_operands a_parents a_places a_children a_levels a_nests a_scopes a_nodeLambdas a_lambdaNodes lv fl pf a_codeOps a_codeNodes a_codeTargets a_branchSpots a_entries a_frameReturns a_frameValues a_closureLambdas a_closureValues a_waiting a_records a_calledSets := by
    intro d
    induction d with
    | zero =>
      intro q f g lv fl pf hq hf hne X hg
      have := so_it_bd T h0 hne
      omega
    | succ d ih =>
      intro q f g lv fl pf hq hf hne X hg
      obtain ⟨f, rfl⟩ : ∃ f', f = f' + 1 := ⟨f - 1, by omega⟩
      have R := so_R_it T h0 q
      subst hg
      refine br_f (nI_ge (b := 10000) (by omega) (by decide)) (br_f (by decide) ?_)
      refine xx_growOnce A XT R X (fun lv1 fl1 pf1 g1 X1 G1 => nm_r (nI_1 q) ?_)
      rcases G1.2.2 with ⟨g0, e⟩ | ⟨g1', ne⟩
      · -- nothing has grown
        obtain ⟨f, rfl⟩ : ∃ f', f = f' + 1 := ⟨f - 1, by omega⟩
        subst g0
        have es : so_it (so_G K (tr_e P n) B (tr_lc K) (re_bd K n) L n) so_t0 q = re_sol K P B n L := so_sol_is T h0 e
        rw [e, es] at X1
        exact br_f (nI_ge (b := 10000) (by omega) (by decide)) (br_t rfl (fin lv1 fl1 pf1 0 X1))
      · refine ih (q + 1) f g1 lv1 fl1 pf1 (by omega) (by omega) (fun j hj => ?_) X1 g1'
        by_cases w : j = q
        · rw [w]; exact ne
        · exact hne j (by omega)
  refine br_t (by decide) (xx_startSolution hn hL h0 (fun lv fl pf X => ⟨1139, ?_⟩))
  exact go 1137 0 1139 1 lv fl pf (by omega) (by omega) (fun j hj => absurd hj (Nat.not_lt_zero j)) X rfl
end
end
section
/-! ===== the reference: one node of a pass ===== -/
section
variable {g_cellLimit g_callLimit g_closureLimit g_nodes g_holes g_reached : Int32} {b_kinds b_operands b_parents b_s b_p b_rec b_sets b_live b_done b_fn b_val b_entered b_bind : Nat → Int32}
variable {cs n h L : Nat} {K P N Lv S O B : Nat → Nat} {t : so_S}
theorem yy_kid0 {post : Int32 → Prop} {m : Nat} (A : re_A cs n 0 L K P N Lv S O B) (hpa : ∀ m, 0 < m → m < n → b_parents m = nI (P m)) (hm : m < n) (k : 2 ≤ K m) (hp : post (nI (m + 1))) : wpY_child post (g_cellLimit, g_callLimit, g_closureLimit, (nI n), g_holes, g_reached, b_kinds, b_operands, b_parents, b_s, b_p, b_rec, b_sets, b_live, b_done, b_fn, b_val, b_entered, b_bind) (nI m) (nI 0) := by
  have hn : n ≤ 48 := by have := A.2.2.1; have := A.2.2.2.1; omega
  obtain ⟨h0, F⟩ := re_full A
  have ha : 0 < tr_ar (K m) := by
    by_cases k2 : K m = 2
    · rw [tr_ar_1 k2]; omega
    · by_cases k6 : K m = 6
      · rw [tr_ar_3 k6]; omega
      · rw [tr_ar_2 (by omega) k6]; omega
  obtain ⟨a, b, c⟩ := tr_first A.1 F hm ha
  refine yy_child hn (by omega) hpa A.1 hm (fun c' c0 c1 c2 c3 => ?_) (fun w => ?_)
  · have := tr_uniq c0 (show 0 < m + 1 by omega) c2 b (by omega)
    rw [this]; exact hp
  · rw [F m hm] at w; omega
theorem yy_kid1 {post : Int32 → Prop} {m : Nat} (A : re_A cs n 0 L K P N Lv S O B) (hpa : ∀ m, 0 < m → m < n → b_parents m = nI (P m)) (hm : m < n) (k : 3 ≤ K m) (hp : post (nI (tr_e P n (m + 1)))) : wpY_child post (g_cellLimit, g_callLimit, g_closureLimit, (nI n), g_holes, g_reached, b_kinds, b_operands, b_parents, b_s, b_p, b_rec, b_sets, b_live, b_done, b_fn, b_val, b_entered, b_bind) (nI m) (nI 1) := by
  have hn : n ≤ 48 := by have := A.2.2.1; have := A.2.2.2.1; omega
  obtain ⟨h0, F⟩ := re_full A
  have ha : 2 ≤ tr_ar (K m) := by
    by_cases k6 : K m = 6
    · rw [tr_ar_3 k6]; omega
    · rw [tr_ar_2 k k6]; omega
  obtain ⟨a, b, c⟩ := tr_kid1 A.1 F hm ha
  have hq := (tr_par2 A.1 F hm k).1
  refine yy_child hn (by omega) hpa A.1 hm (fun c' c0 c1 c2 c3 => ?_) (fun w => ?_)
  · have := tr_uniq c0 (show 0 < tr_e P n (m + 1) by omega) c2 b (by omega)
    rw [this]; exact hp
  · rw [F m hm] at w; omega
theorem yy_kid2 {post : Int32 → Prop} {m : Nat} (A : re_A cs n 0 L K P N Lv S O B) (hpa : ∀ m, 0 < m → m < n → b_parents m = nI (P m)) (hm : m < n) (k : K m = 6) (hp : post (nI (tr_e P n (tr_e P n (m + 1))))) : wpY_child post (g_cellLimit, g_callLimit, g_closureLimit, (nI n), g_holes, g_reached, b_kinds, b_operands, b_parents, b_s, b_p, b_rec, b_sets, b_live, b_done, b_fn, b_val, b_entered, b_bind) (nI m) (nI 2) := by
  have hn : n ≤ 48 := by have := A.2.2.1; have := A.2.2.2.1; omega
  obtain ⟨h0, F⟩ := re_full A
  have ha : 3 ≤ tr_ar (K m) := by rw [tr_ar_3 k]; omega
  obtain ⟨a, b, c⟩ := tr_kid2 A.1 F hm ha
  have hq := (tr_par3 A.1 F hm k).1
  refine yy_child hn (by omega) hpa A.1 hm (fun c' c0 c1 c2 c3 => ?_) (fun w => ?_)
  · have := tr_uniq c0 (show 0 < tr_e P n (tr_e P n (m + 1)) by omega) c2 b (by omega)
    rw [this]; exact hp
  · rw [F m hm] at w; omega
theorem yy_kidx {post : Int32 → Prop} {m k : Nat} (A : re_A cs n h L K P N Lv S O B) (hpa : ∀ m, 0 < m → m < n → b_parents m = nI (P m)) (hm : m < n) (hk : k < 3) (hp : ∀ x, post x) : wpY_child post (g_cellLimit, g_callLimit, g_closureLimit, (nI n), g_holes, g_reached, b_kinds, b_operands, b_parents, b_s, b_p, b_rec, b_sets, b_live, b_done, b_fn, b_val, b_entered, b_bind) (nI m) (nI k) := by
  have hn : n ≤ 48 := by have := A.2.2.1; have := A.2.2.2.1; omega
  exact yy_child hn hk hpa A.1 hm (fun _ _ _ _ _ => hp _) (fun _ => hp _)
/-- the loop over the lambdas, of a node that is no call -/
theorem yy_grow_x {post : SY → Prop} {x1 x3 x4 : Int32} {k : Nat} (hk : k ≤ 6) (k3 : k ≠ 3) (hp : post (g_cellLimit, g_callLimit, g_closureLimit, g_nodes, g_holes, g_reached, b_kinds, b_operands, b_parents, b_s, b_p, b_rec, b_sets, b_live, b_done, b_fn, b_val, b_entered, b_bind)) : ∀ d l f, l + d = 16 → d < f → wY_grow_209 post x1 (nI k) x3 x4 g_cellLimit g_callLimit g_closureLimit g_nodes g_holes g_reached f (nI l) b_kinds b_operands b_parents b_s b_p b_rec b_sets b_live b_done b_fn b_val b_entered b_bind := by
  intro d
  induction d with
  | zero =>
    intro l f hl hf
    obtain ⟨f, rfl⟩ : ∃ f', f = f' + 1 := ⟨f - 1, by omega⟩
    have e : l = 16 := by omega
    subst e
    exact br_t (by decide) hp
  | succ d ih =>
    intro l f hl hf
    obtain ⟨f, rfl⟩ : ∃ f', f = f' + 1 := ⟨f - 1, by omega⟩
    refine br_f (nI_ge (b := 16) (by omega) (by decide)) (br_f (fun w => k3 ((nI_eq (b := 3) (by omega) (by decide)).mp w)) (nm_r (nI_1 l) ?_))
    exact ih (l + 1) f (by omega) (by omega)
theorem yy_grow_l {post : SY → Prop} {m c0 c1 : Nat} {t1 : so_S} (A : re_A cs n 0 L K P N Lv S O B) (hk : ∀ m, m < n → b_kinds m = nI (K m) ∧ K m ≤ 6) (hm : m < n) (h0 : c0 < n) (h1 : c1 < n) (hne : c1 ≠ m) (R : so_R n L t1) (hz : t1.2.1 c1 ≠ 0)
    (hpost : ∀ lv fl pf, so_X n 16 (so_lp c0 c1 m (re_bd K n) t1 L) lv fl pf → post (g_cellLimit, g_callLimit, g_closureLimit, (nI n), g_holes, g_reached, b_kinds, b_operands, b_parents, fl, pf, b_rec, b_sets, lv, b_done, b_fn, b_val, b_entered, b_bind)) :
    ∀ d l f lv fl pf, l + d = 16 → d < f → so_X n 16 (so_lp c0 c1 m (re_bd K n) t1 l) lv fl pf → (so_lp c0 c1 m (re_bd K n) t1 l).2.1 c1 = t1.2.1 c1 → wY_grow_209 post (nI m) (nI 3) (nI c0) (nI c1) g_cellLimit g_callLimit g_closureLimit (nI n) g_holes g_reached f (nI l) b_kinds b_operands b_parents fl pf b_rec b_sets lv b_done b_fn b_val b_entered b_bind := by
  have hn : n ≤ 48 := by have := A.2.2.1; have := A.2.2.2.1; omega
  have hL : L ≤ 16 := A.2.2.2.2.2.1
  have hLn := A.2.2.2.2.1
  have T := re_so_T A (re_bd_is (K := K) (n := n))
  have hbd := T.2.2.2.2.2.2
  intro d
  induction d with
  | zero =>
    intro l f lv fl pf hl hf X e1
    obtain ⟨f, rfl⟩ : ∃ f', f = f' + 1 := ⟨f - 1, by omega⟩
    have e : l = 16 := by omega
    subst e
    have e16 := so_lp_16 (c0 := c0) (c1 := c1) R hm hbd (16 - L) (by omega)
    rw [Nat.add_sub_cancel' hL] at e16
    rw [e16] at X
    exact br_t (by decide) (hpost lv fl pf X)
  | succ d ih =>
    intro l f lv fl pf hl hf X e1
    obtain ⟨f, rfl⟩ : ∃ f', f = f' + 1 := ⟨f - 1, by omega⟩
    have Rl : so_R n L (so_lp c0 c1 m (re_bd K n) t1 l) := by
      rcases Nat.lt_or_ge l L with q | q
      · exact so_R_lp R hm hbd l (by omega)
      · have := so_lp_16 (c0 := c0) (c1 := c1) R hm hbd (l - L) (by omega)
        rw [Nat.add_sub_cancel' q] at this
        rw [this]
        exact so_R_lp R hm hbd L (Nat.le_refl L)
    have ms := fun i => so_ms_lt hL (Rl.2.2.2.1 i)
    have m0 := ms c0
    have m1 := ms c1
    have step : so_lp c0 c1 m (re_bd K n) t1 (l + 1) = so_st c0 c1 m (re_bd K n) (so_lp c0 c1 m (re_bd K n) t1 l) l := rfl
    have v0 : vp_in (nI c0) 48 := vp_in_nI (by omega) (by omega)
    have v1 : vp_in (nI c1) 48 := vp_in_nI (by omega) (by omega)
    have vm : vp_in (nI m) 48 := vp_in_nI (by omega) (by omega)
    have vl : vp_in (nI l) 16 := vp_in_nI (by omega) (by omega)
    refine br_f (nI_ge (b := 16) (by omega) (by decide)) (br_t rfl ⟨v1, ?_⟩)
    rw [nI_clamp (by omega), (X.1 c1 h1).2, e1]
    rw [e1] at m1
    refine br_f (nI_ne0 (by omega) (by omega)) ⟨v0, ?_⟩
    rw [nI_clamp (by omega), (X.1 c0 h0).2]
    cases z : ((so_lp c0 c1 m (re_bd K n) t1 l).2.1 c0).testBit l with
    | false =>
      refine br_t ((bi_shr (by omega) (by omega)).mpr z) (nm_r (nI_1 l) ?_)
      have e : so_lp c0 c1 m (re_bd K n) t1 (l + 1) = so_lp c0 c1 m (re_bd K n) t1 l := by
        rw [step]
        unfold so_st
        rw [if_neg (by rw [z]; decide)]
      exact ih (l + 1) f lv fl pf (by omega) (by omega) (by rw [e]; exact X) (by rw [e]; exact e1)
    | true =>
      have hlL : l < L := by
        have := Rl.2.2.2.1 c0 l z
        omega
      have e : so_lp c0 c1 m (re_bd K n) t1 (l + 1) = so_fl (so_pa (so_lv (so_lp c0 c1 m (re_bd K n) t1 l) (re_bd K n l)) l ((so_lp c0 c1 m (re_bd K n) t1 l).2.1 c1)) m ((so_lp c0 c1 m (re_bd K n) t1 l).2.1 (re_bd K n l)) := by
        rw [step]
        unfold so_st
        rw [if_pos z]
      have hb := hbd l hlL
      refine br_f (fun w => by rw [(bi_shr (by omega) (by omega)).mp w] at z; cases z) ?_
      refine yy_lambdaNode hn hk (fun a ha ka ea => ?_) (fun w => ?_)
      · have la := tr_lc_lt ha ka
        have el : l = tr_lc K a := (nI_eq (by omega) (by omega)).mp ea
        have eb : a + 1 = re_bd K n l := by rw [el]; exact (re_bd_is a ha ka).symm
        refine nm_r (nI_1 a) ?_
        rw [eb]
        have vb : vp_in (nI (re_bd K n l)) 48 := vp_in_nI (by omega) (by omega)
        refine ⟨vb, nm_e ⟨vl, v1, vl, nm_e ⟨vm, vb, vm, nm_e (nm_r (nI_1 l) ?_)⟩⟩⟩
        rw [nI_clamp (n := re_bd K n l) (by omega), nI_clamp (n := l) (by omega), nI_clamp (n := m) (by omega), so_b1]
        have X1 := so_X_lv X (re_bd K n l)
        have X2 := so_X_pa X1 l ((so_lp c0 c1 m (re_bd K n) t1 l).2.1 c1) (x := pf l ||| nI (t1.2.1 c1)) (by rw [X.2 l (by omega), ← e1, bi_or]; rfl)
        have X3 := so_X_fl X2 m ((so_lp c0 c1 m (re_bd K n) t1 l).2.1 (re_bd K n l)) (x := fl m ||| fl (re_bd K n l)) (by rw [(X.1 m hm).2, (X.1 _ hb).2, bi_or]; rfl)
        refine ih (l + 1) f _ _ _ (by omega) (by omega) (by rw [e]; exact X3) ?_
        rw [e]
        show tr_put (so_lp c0 c1 m (re_bd K n) t1 l).2.1 m _ c1 = _
        rw [tr_put_n _ _ hne]
        exact e1
      · obtain ⟨a, a1, a2, a3⟩ := tr_lc_find (K := K) (l := l) n (by omega)
        exact absurd (by rw [a3]) (w a a1 a2)
end
end
section
section
variable {g_cellLimit g_callLimit g_closureLimit g_nodes g_holes g_reached : Int32} {b_kinds b_operands b_parents b_s b_p b_rec b_sets b_live b_done b_fn b_val b_entered b_bind : Nat → Int32}
variable {cs n L : Nat} {K P N Lv S O B : Nat → Nat} {t : so_S}
theorem yy_grow {post : SY → Prop} {m : Nat} (A : re_A cs n 0 L K P N Lv S O B) (hk : ∀ m, m < n → b_kinds m = nI (K m) ∧ K m ≤ 6) (hpa : ∀ m, 0 < m → m < n → b_parents m = nI (P m)) (hod : ∀ m, m < n → K m = 0 → b_operands m = nI (O m)) (hm : m < n) (R : so_R n L t) (X : so_X n 16 t b_live b_s b_p)
    (hpost : ∀ lv fl pf, so_X n 16 (so_g K (tr_e P n) B (tr_lc K) (re_bd K n) L t m) lv fl pf → post (g_cellLimit, g_callLimit, g_closureLimit, (nI n), g_holes, g_reached, b_kinds, b_operands, b_parents, fl, pf, b_rec, b_sets, lv, b_done, b_fn, b_val, b_entered, b_bind)) :
    wpY_grow post (g_cellLimit, g_callLimit, g_closureLimit, (nI n), g_holes, g_reached, b_kinds, b_operands, b_parents, b_s, b_p, b_rec, b_sets, b_live, b_done, b_fn, b_val, b_entered, b_bind) (nI m) := by
  have hn : n ≤ 48 := by have := A.2.2.1; have := A.2.2.2.1; omega
  have hL : L ≤ 16 := A.2.2.2.2.2.1
  have hLn := A.2.2.2.2.1
  obtain ⟨k1, k6⟩ := hk m hm
  have vm : vp_in (nI m) 48 := vp_in_nI (by omega) (by omega)
  have hcm := nI_clamp (n := m) (by omega)
  have ms := fun i => so_ms_lt hL (R.2.2.2.1 i)
  have lit : ∀ {b : Nat}, b < 2 ^ 31 → nI (K m) = nI b → K m = b := fun hb w => (nI_eq (by omega) hb).mp w
  -- a node without children: the mask is added, the rest does nothing
  have small : K m < 3 → ∀ (a x y : Int32) (c : Nat), so_g K (tr_e P n) B (tr_lc K) (re_bd K n) L t m = so_fl t m c → wY_grow_79 post (nI m) (nI (K m)) a x y (nI c) (b_s m) (nI m) g_cellLimit g_callLimit g_closureLimit (nI n) g_holes g_reached b_kinds b_operands b_parents b_s b_p b_rec b_sets b_live b_done b_fn b_val b_entered b_bind := fun k3 a x y c e => by
    rw [e] at hpost
    refine ⟨vm, nm_e ?_⟩
    rw [hcm, (X.1 m hm).2, bi_or]
    have X1 := so_X_fl X m c (x := nI (t.2.1 m ||| c)) rfl
    have l3 : nI (K m) < 3 := nI_lt (b := 3) k3 (by decide)
    refine br_t l3 (br_t l3 (br_f (fun w => by have := lit (b := 4) (by decide) w; omega) (br_f (fun w => by have := lit (b := 5) (by decide) w; omega) (br_f (fun w => by have := lit (b := 6) (by decide) w; omega) ⟨17, ?_⟩))))
    exact yy_grow_x k6 (by omega) (hpost _ _ _ X1) 16 0 17 (by omega) (by omega)
  refine ⟨vm, ?_⟩
  rw [hcm]
  refine nm_r k1 ?_
  by_cases kb : 3 ≤ K m
  · have nl3 : ¬ nI (K m) < 3 := nI_nlt (b := 3) kb (by omega)
    obtain ⟨h0, F⟩ := re_full A
    obtain ⟨r1, r2⟩ := tr_par1 A.1 F hm (by omega)
    obtain ⟨s0, s1, s2⟩ := tr_par2 A.1 F hm kb
    have v0 : vp_in (nI (m + 1)) 48 := vp_in_nI (by omega) (by omega)
    have v1 : vp_in (nI (tr_e P n (m + 1))) 48 := vp_in_nI (by omega) (by omega)
    have hc0 := nI_clamp (n := m + 1) (by omega)
    have hc1 := nI_clamp (n := tr_e P n (m + 1)) (by omega)
    have m0 := ms (m + 1)
    have m1 := ms (tr_e P n (m + 1))
    have X1 := so_X_lv X (m + 1)
    have X2 := so_X_lv X1 (tr_e P n (m + 1))
    -- behind look
    have main : ∀ y : Int32, (K m = 6 → y = nI (tr_e P n (tr_e P n (m + 1)))) → wY_grow_81 post (nI m) (nI (K m)) (nI (m + 1)) (nI (tr_e P n (m + 1))) y g_cellLimit g_callLimit g_closureLimit (nI n) g_holes g_reached b_kinds b_operands b_parents b_s b_p b_rec b_sets b_live b_done b_fn b_val b_entered b_bind := fun y hy => by
      refine br_f nl3 ⟨v0, nm_e (br_f nl3 ?_)⟩
      rw [hc0, so_b1]
      by_cases q6 : K m = 6
      · -- IF0
        obtain ⟨w0, w1, w2⟩ := tr_par3 A.1 F hm q6
        have v2 : vp_in (nI (tr_e P n (tr_e P n (m + 1)))) 48 := vp_in_nI (by omega) (by omega)
        have hc2 := nI_clamp (n := tr_e P n (tr_e P n (m + 1))) (by omega)
        have e : so_g K (tr_e P n) B (tr_lc K) (re_bd K n) L t m = (if (t.2.1 (m + 1)).testBit 16 = true then so_fl (so_lv (so_lv (so_lv t (m + 1)) (tr_e P n (m + 1))) (tr_e P n (tr_e P n (m + 1)))) m (t.2.1 (tr_e P n (m + 1)) ||| t.2.1 (tr_e P n (tr_e P n (m + 1)))) else so_lv t (m + 1)) := by
          unfold so_g
          rw [if_neg (by omega), if_neg (by omega), if_neg (by omega), if_pos q6]
        rw [e] at hpost
        rw [hy q6, q6]
        refine br_t rfl (br_f (by decide) (br_f (by decide) (br_t rfl ⟨v0, ?_⟩)))
        rw [hc0, (X.1 _ r1).2]
        cases z : (t.2.1 (m + 1)).testBit 16 with
        | false =>
          rw [if_neg (by rw [z]; decide)] at hpost
          exact br_t ((bi_16 (by omega)).mpr z) ⟨17, yy_grow_x (k := 6) (by omega) (by omega) (hpost _ _ _ X1) 16 0 17 (by omega) (by omega)⟩
        | true =>
          rw [if_pos z] at hpost
          refine br_f (fun w => by rw [(bi_16 (by omega)).mp w] at z; cases z) ⟨v1, nm_e ⟨v2, nm_e ⟨vm, v1, v2, vm, nm_e ⟨17, ?_⟩⟩⟩⟩
          rw [hc1, hc2, hcm, so_b1, (X.1 m hm).2, (X.1 _ s1).2, (X.1 _ w1).2, bi_or, bi_or]
          have X3 := so_X_lv X2 (tr_e P n (tr_e P n (m + 1)))
          have X4 := so_X_fl X3 m (t.2.1 (tr_e P n (m + 1)) ||| t.2.1 (tr_e P n (tr_e P n (m + 1)))) rfl
          exact yy_grow_x (k := 6) (by omega) (by omega) (hpost _ _ _ X4) 16 0 17 (by omega) (by omega)
      · have n6 : ¬ nI (K m) = 6 := fun w => q6 (lit (b := 6) (by decide) w)
        refine br_f n6 ⟨v1, nm_e ?_⟩
        rw [hc1]
        by_cases q3 : K m = 3
        · -- APP
          have e : so_g K (tr_e P n) B (tr_lc K) (re_bd K n) L t m = (if t.2.1 (tr_e P n (m + 1)) = 0 then so_lv (so_lv t (m + 1)) (tr_e P n (m + 1)) else so_lp (m + 1) (tr_e P n (m + 1)) m (re_bd K n) (so_lv (so_lv t (m + 1)) (tr_e P n (m + 1))) L) := by
            unfold so_g
            rw [if_neg (by omega), if_neg (by omega), if_neg (by omega), if_neg (by omega), if_pos q3]
          rw [e] at hpost
          rw [q3]
          refine br_f (by decide) (br_f (by decide) (br_f (by decide) ⟨17, ?_⟩))
          by_cases z : t.2.1 (tr_e P n (m + 1)) = 0
          · rw [if_pos z] at hpost
            have go : ∀ d l f, l + d = 16 → d < f → wY_grow_209 post (nI m) (nI 3) (nI (m + 1)) (nI (tr_e P n (m + 1))) g_cellLimit g_callLimit g_closureLimit (nI n) g_holes g_reached f (nI l) b_kinds b_operands b_parents b_s b_p b_rec b_sets (upd (upd b_live (m + 1) (nI 1)) (tr_e P n (m + 1)) (nI 1)) b_done b_fn b_val b_entered b_bind := by
              intro d
              induction d with
              | zero =>
                intro l f hl hf
                obtain ⟨f, rfl⟩ : ∃ f', f = f' + 1 := ⟨f - 1, by omega⟩
                have e : l = 16 := by omega
                subst e
                exact br_t (by decide) (hpost _ _ _ X2)
              | succ d ih =>
                intro l f hl hf
                obtain ⟨f, rfl⟩ : ∃ f', f = f' + 1 := ⟨f - 1, by omega⟩
                refine br_f (nI_ge (b := 16) (by omega) (by decide)) (br_t rfl ⟨v1, ?_⟩)
                rw [hc1, (X.1 _ s1).2, z]
                exact br_t rfl (nm_r (nI_1 l) (ih (l + 1) f (by omega) (by omega)))
            exact go 16 0 17 (by omega) (by omega)
          · rw [if_neg z] at hpost
            exact yy_grow_l A hk hm r1 s1 (by omega) (so_R_lv (so_R_lv R r1) s1) z hpost 16 0 17 _ _ _ (by omega) (by omega) X2 rfl
        · -- ADD, SUB
          have e : so_g K (tr_e P n) B (tr_lc K) (re_bd K n) L t m = so_fl (so_lv (so_lv t (m + 1)) (tr_e P n (m + 1))) m (t.2.1 (m + 1) &&& t.2.1 (tr_e P n (m + 1)) &&& 65536) := by
            unfold so_g
            rw [if_neg (by omega), if_neg (by omega), if_neg (by omega), if_neg q6, if_neg q3]
          rw [e] at hpost
          have fin : wY_grow_122 post (nI m) (nI (K m)) (nI (m + 1)) (nI (tr_e P n (m + 1))) y g_cellLimit g_callLimit g_closureLimit (nI n) g_holes g_reached b_kinds b_operands b_parents b_s b_p b_rec b_sets (upd (upd b_live (m + 1) (nI 1)) (tr_e P n (m + 1)) (nI 1)) b_done b_fn b_val b_entered b_bind := by
            refine ⟨vm, v0, v1, vm, nm_e (br_f n6 ⟨17, ?_⟩)⟩
            rw [hc0, hc1, hcm, (X.1 m hm).2, (X.1 _ r1).2, (X.1 _ s1).2, bi_and, show (65536 : Int32) = nI 65536 from rfl, bi_and, bi_or]
            have X4 := so_X_fl X2 m (t.2.1 (m + 1) &&& t.2.1 (tr_e P n (m + 1)) &&& 65536) rfl
            exact yy_grow_x k6 q3 (hpost _ _ _ X4) 16 0 17 (by omega) (by omega)
          by_cases q4 : K m = 4
          · exact br_t (by rw [q4]; rfl) fin
          · have q5 : K m = 5 := by omega
            exact br_f (fun w => q4 (lit (b := 4) (by decide) w)) (br_t (by rw [q5]; rfl) fin)
    refine yy_kid0 A hpa hm (by omega) (yy_kid1 A hpa hm kb ?_)
    by_cases q6 : K m = 6
    · refine yy_kid2 A hpa hm q6 ?_
      refine yy_look A hk hpa hod hm (fun e => absurd e (by decide)) (fun e => absurd e (by decide)) (fun e => absurd e (by decide)) (fun _ => ⟨fun q => by omega, fun q => by omega, fun _ _ => br_t (nI_le (a := 3) kb (by omega)) (main _ (fun _ => rfl))⟩) (fun e => by rcases e with e | e <;> exact absurd e (by decide))
    · refine yy_kidx (k := 2) A hpa hm (by decide) (fun y => ?_)
      refine yy_look A hk hpa hod hm (fun e => absurd e (by decide)) (fun e => absurd e (by decide)) (fun e => absurd e (by decide)) (fun _ => ⟨fun q => by omega, fun q => by omega, fun _ _ => br_t (nI_le (a := 3) kb (by omega)) (main y (fun w => absurd w q6))⟩) (fun e => by rcases e with e | e <;> exact absurd e (by decide))
  · have k3 : K m < 3 := by omega
    have g3 : ¬ 3 ≤ nI (K m) := nI_ge (b := 3) k3 (by decide)
    refine yy_kidx (k := 0) A hpa hm (by decide) (fun a => yy_kidx (k := 1) A hpa hm (by decide) (fun x => yy_kidx (k := 2) A hpa hm (by decide) (fun y => ?_)))
    refine yy_look A hk hpa hod hm (fun e => absurd e (by decide)) (fun e => absurd e (by decide)) (fun e => absurd e (by decide)) (fun _ => ⟨fun q => ?_, fun q => ?_, fun q q' => ?_⟩) (fun e => by rcases e with e | e <;> exact absurd e (by decide))
    · refine br_f g3 ⟨vm, ?_⟩
      have hB : B m < L := by
        obtain ⟨a1, b, b1, b2, b3, b4, b5⟩ := A.2.2.2.2.2.2.2.2.2.2 m hm q
        rw [b4, hLn]
        exact tr_lc_lt (by omega) b2
      refine br_f (fun w => by have := lit (b := 1) (by decide) w; omega) (br_f (fun w => by have := lit (b := 2) (by decide) w; omega) ⟨vp_in_nI (by omega) (by omega), ?_⟩)
      rw [nI_clamp (by omega), X.2 _ (by omega)]
      refine small k3 a x y (t.2.2 (B m)) ?_
      unfold so_g
      rw [if_pos q]
    · refine br_f g3 ⟨vm, ?_⟩
      have hlc : tr_lc K m < L := by rw [hLn]; exact tr_lc_lt hm q
      refine br_f (fun w => by have := lit (b := 1) (by decide) w; omega) (br_t (by rw [q]; rfl) ?_)
      rw [bi_shl _ (by omega)]
      refine small k3 a x y (2 ^ tr_lc K m) ?_
      unfold so_g
      rw [if_neg (by omega), if_neg (by omega), if_pos q]
    · refine br_f g3 ⟨vm, ?_⟩
      have q1 : K m = 1 := by omega
      refine br_t (by rw [q1]; rfl) ?_
      refine small k3 a x y 65536 ?_
      unfold so_g
      rw [if_neg (by omega), if_pos q1]
end
end
section
/-! ===== the reference: rounds, solve ===== -/
theorem so_X_16 {n L : Nat} {t : so_S} {lv fl pf : Nat → Int32} (hL : L ≤ 16) (X : so_X n 16 t lv fl pf) : so_X n L t lv fl pf := ⟨X.1, fun l hl => X.2 l (by omega)⟩
section
variable {g_cellLimit g_callLimit g_closureLimit g_nodes g_holes g_reached : Int32} {b_kinds b_operands b_parents b_s b_p b_rec b_sets b_live b_done b_fn b_val b_entered b_bind : Nat → Int32}
variable {cs n L : Nat} {K P N Lv S O B : Nat → Nat} {t : so_S}
/-- one round -/
theorem yy_round {post : Int32 → SY → Prop} {J : Int32 → Int32 → Int32 → Int32 → Int32 → Int32 → Int32 → Int32 → Int32 → Int32 → (Nat → Int32) → (Nat → Int32) → (Nat → Int32) → (Nat → Int32) → (Nat → Int32) → (Nat → Int32) → (Nat → Int32) → (Nat → Int32) → (Nat → Int32) → (Nat → Int32) → (Nat → Int32) → (Nat → Int32) → (Nat → Int32) → Prop} {x1 x4 : Int32} (A : re_A cs n 0 L K P N Lv S O B) (hk : ∀ m, m < n → b_kinds m = nI (K m) ∧ K m ≤ 6) (hpa : ∀ m, 0 < m → m < n → b_parents m = nI (P m)) (hod : ∀ m, m < n → K m = 0 → b_operands m = nI (O m)) (R : so_R n L t) (X : so_X n 16 t b_live b_s b_p)
    (hJ : ∀ lv fl pf, so_X n 16 (so_G K (tr_e P n) B (tr_lc K) (re_bd K n) L n t) lv fl pf → J x1 (nI (so_V n (so_G K (tr_e P n) B (tr_lc K) (re_bd K n) L n t))) (nI (so_n n (so_G K (tr_e P n) B (tr_lc K) (re_bd K n) L n t))) (x4 + 1) g_cellLimit g_callLimit g_closureLimit (nI n) g_holes g_reached b_kinds b_operands b_parents fl pf b_rec b_sets lv b_done b_fn b_val b_entered b_bind) :
    ∃ f, wY_solve_93 post J x1 (nI 0) (nI 0) x4 f (nI 0) g_cellLimit g_callLimit g_closureLimit (nI n) g_holes g_reached b_kinds b_operands b_parents b_s b_p b_rec b_sets b_live b_done b_fn b_val b_entered b_bind := by
  have hn : n ≤ 48 := by have := A.2.2.1; have := A.2.2.2.1; omega
  have T := re_so_T A (re_bd_is (K := K) (n := n))
  have RG : so_R n L (so_G K (tr_e P n) B (tr_lc K) (re_bd K n) L n t) := so_R_ps T R n (Nat.le_refl n)
  have g3 : ∀ lv fl pf, so_X n 16 (so_G K (tr_e P n) B (tr_lc K) (re_bd K n) L n t) lv fl pf → ∀ d i f, i + d = 16 → d < f → wY_solve_168 post J x1 (nI (so_n n (so_G K (tr_e P n) B (tr_lc K) (re_bd K n) L n t))) x4 g_cellLimit g_callLimit g_closureLimit (nI n) g_holes g_reached b_kinds b_operands b_parents fl pf b_rec b_sets lv b_done b_fn b_val b_entered b_bind f (nI (tr_sum (fun i => (so_G K (tr_e P n) B (tr_lc K) (re_bd K n) L n t).2.1 i) n + tr_sum (fun l => (so_G K (tr_e P n) B (tr_lc K) (re_bd K n) L n t).2.2 l) i)) (nI i) := by
    intro lv fl pf X d
    induction d with
    | zero =>
      intro i f hi hf
      obtain ⟨f, rfl⟩ : ∃ f', f = f' + 1 := ⟨f - 1, by omega⟩
      have e : i = 16 := by omega
      subst e
      exact br_t (by decide) (nm_r (nI_add _ _) (nm_e (hJ lv fl pf X)))
    | succ d ih =>
      intro i f hi hf
      obtain ⟨f, rfl⟩ : ∃ f', f = f' + 1 := ⟨f - 1, by omega⟩
      refine br_f (nI_ge (b := 16) (by omega) (by decide)) ⟨vp_in_nI (by omega) (by omega), ?_⟩
      rw [nI_clamp (by omega), X.2 i (by omega)]
      refine nm_r (nI_add _ _) (nm_r (nI_1 i) ?_)
      rw [Nat.add_assoc]
      exact ih (i + 1) f (by omega) (by omega)
  have g2 : ∀ lv fl pf, so_X n 16 (so_G K (tr_e P n) B (tr_lc K) (re_bd K n) L n t) lv fl pf → ∀ d i f, i + d = n → d < f → wY_solve_127 post J x1 x4 g_cellLimit g_callLimit g_closureLimit (nI n) g_holes g_reached b_kinds b_operands b_parents fl pf b_rec b_sets lv b_done b_fn b_val b_entered b_bind f (nI (tr_sum (fun i => (so_G K (tr_e P n) B (tr_lc K) (re_bd K n) L n t).2.1 i) i)) (nI (tr_sum (fun i => (so_G K (tr_e P n) B (tr_lc K) (re_bd K n) L n t).1 i) i)) (nI i) := by
    intro lv fl pf X d
    induction d with
    | zero =>
      intro i f hi hf
      obtain ⟨f, rfl⟩ : ∃ f', f = f' + 1 := ⟨f - 1, by omega⟩
      have e : i = n := by omega
      subst e
      exact br_t (nI_le (Nat.le_refl _) (by omega)) ⟨17, g3 lv fl pf X 16 0 17 (by omega) (by omega)⟩
    | succ d ih =>
      intro i f hi hf
      obtain ⟨f, rfl⟩ : ∃ f', f = f' + 1 := ⟨f - 1, by omega⟩
      have v : vp_in (nI i) 48 := vp_in_nI (by omega) (by omega)
      have hc := nI_clamp (n := i) (by omega)
      obtain ⟨q1, q2⟩ := X.1 i (by omega)
      have h1 := RG.1 i
      have nx := ih (i + 1) f (by omega) (by omega)
      refine br_f (nI_ge (by omega) (by omega)) ⟨v, ?_⟩
      rw [hc, q1]
      have e2 : tr_sum (fun i => (so_G K (tr_e P n) B (tr_lc K) (re_bd K n) L n t).1 i) (i + 1) = tr_sum (fun i => (so_G K (tr_e P n) B (tr_lc K) (re_bd K n) L n t).1 i) i + (so_G K (tr_e P n) B (tr_lc K) (re_bd K n) L n t).1 i := rfl
      have e1 : tr_sum (fun i => (so_G K (tr_e P n) B (tr_lc K) (re_bd K n) L n t).2.1 i) (i + 1) = tr_sum (fun i => (so_G K (tr_e P n) B (tr_lc K) (re_bd K n) L n t).2.1 i) i + (so_G K (tr_e P n) B (tr_lc K) (re_bd K n) L n t).2.1 i := rfl
      rw [e1, e2] at nx
      by_cases z : (so_G K (tr_e P n) B (tr_lc K) (re_bd K n) L n t).1 i = 1
      · rw [z] at nx ⊢
        refine br_f (by decide) (nm_r (nI_1 _) ⟨v, ?_⟩)
        rw [hc, q2]
        exact nm_r (nI_add _ _) (nm_r (nI_1 i) nx)
      · have z0 : (so_G K (tr_e P n) B (tr_lc K) (re_bd K n) L n t).1 i = 0 := by omega
        rw [z0, Nat.add_zero] at nx
        rw [z0]
        refine br_t rfl ⟨v, ?_⟩
        rw [hc, q2]
        exact nm_r (nI_add _ _) (nm_r (nI_1 i) nx)
  have g1 : ∀ d i f lv fl pf, i + d = n → d < f → so_X n 16 (so_ps K (tr_e P n) B (tr_lc K) (re_bd K n) L t i) lv fl pf → wY_solve_93 post J x1 (nI 0) (nI 0) x4 f (nI i) g_cellLimit g_callLimit g_closureLimit (nI n) g_holes g_reached b_kinds b_operands b_parents fl pf b_rec b_sets lv b_done b_fn b_val b_entered b_bind := by
    intro d
    induction d with
    | zero =>
      intro i f lv fl pf hi hf X
      obtain ⟨f, rfl⟩ : ∃ f', f = f' + 1 := ⟨f - 1, by omega⟩
      have e : i = n := by omega
      subst e
      exact br_t (nI_le (Nat.le_refl _) (by omega)) ⟨i + 1, g2 lv fl pf X i 0 (i + 1) (by omega) (by omega)⟩
    | succ d ih =>
      intro i f lv fl pf hi hf X
      obtain ⟨f, rfl⟩ : ∃ f', f = f' + 1 := ⟨f - 1, by omega⟩
      have Ri := so_R_ps T R i (by omega)
      have e : so_ps K (tr_e P n) B (tr_lc K) (re_bd K n) L t (i + 1) = (if (so_ps K (tr_e P n) B (tr_lc K) (re_bd K n) L t i).1 i = 1 then so_g K (tr_e P n) B (tr_lc K) (re_bd K n) L (so_ps K (tr_e P n) B (tr_lc K) (re_bd K n) L t i) i else so_ps K (tr_e P n) B (tr_lc K) (re_bd K n) L t i) := rfl
      refine br_f (nI_ge (by omega) (by omega)) ⟨vp_in_nI (by omega) (by omega), ?_⟩
      rw [nI_clamp (by omega), (X.1 i (by omega)).1]
      have h1 := Ri.1 i
      by_cases z : (so_ps K (tr_e P n) B (tr_lc K) (re_bd K n) L t i).1 i = 1
      · rw [if_pos z] at e
        refine br_f (nI_ne0 (by omega) (by omega)) ?_
        refine yy_grow A hk hpa hod (by omega) Ri X (fun lv1 fl1 pf1 X1 => nm_r (nI_1 i) ?_)
        exact ih (i + 1) f lv1 fl1 pf1 (by omega) (by omega) (by rw [e]; exact X1)
      · rw [if_neg z] at e
        have z0 : (so_ps K (tr_e P n) B (tr_lc K) (re_bd K n) L t i).1 i = 0 := by omega
        refine br_t (by rw [z0]; rfl) (nm_r (nI_1 i) ?_)
        exact ih (i + 1) f lv fl pf (by omega) (by omega) (by rw [e]; exact X)
  exact ⟨n + 1, g1 n 0 (n + 1) b_live b_s b_p (by omega) (by omega) X⟩
theorem yy_solve {post : Int32 → SY → Prop} {st : Nat} (hst : st ≤ 2) (A : re_A cs n 0 L K P N Lv S O B) (hk : ∀ m, m < n → b_kinds m = nI (K m) ∧ K m ≤ 6) (hpa : ∀ m, 0 < m → m < n → b_parents m = nI (P m)) (hod : ∀ m, m < n → K m = 0 → b_operands m = nI (O m))
    (hpost : ∀ lv fl pf, so_X n 16 (re_sol K P B n L) lv fl pf → post (nI (so_n n (re_sol K P B n L))) (g_cellLimit, g_callLimit, g_closureLimit, (nI n), (nI 0), (nI (if st = 0 then 1 else st)), b_kinds, b_operands, b_parents, fl, pf, b_rec, b_sets, lv, b_done, b_fn, b_val, b_entered, b_bind)) :
    wpY_solve post (g_cellLimit, g_callLimit, g_closureLimit, (nI n), (nI 0), (nI st), b_kinds, b_operands, b_parents, b_s, b_p, b_rec, b_sets, b_live, b_done, b_fn, b_val, b_entered, b_bind) := by
  have hn : n ≤ 48 := by have := A.2.2.1; have := A.2.2.2.1; omega
  have hL : L ≤ 16 := A.2.2.2.2.2.1
  have h0 := (re_full A).1
  have T := re_so_T A (re_bd_is (K := K) (n := n))
  have fin : ∀ lv fl pf, so_X n 16 (re_sol K P B n L) lv fl pf → wY_solve_201 post (nI (so_n n (re_sol K P B n L))) g_cellLimit g_callLimit g_closureLimit (nI n) (nI 0) (nI st) b_kinds b_operands b_parents fl pf b_rec b_sets lv b_done b_fn b_val b_entered b_bind := fun lv fl pf X => by
    have hp := hpost lv fl pf X
    by_cases z : st = 0
    · rw [if_pos z] at hp
      exact br_t (by rw [z]; rfl) hp
    · rw [if_neg z] at hp
      exact br_f (nI_ne0 (by omega) (by omega)) hp
  have V := fun q => so_V_lt hn hL (so_R_it T h0 q)
  have go : ∀ d q f bf nw ct lv fl pf, q + d = 1140 → d < f → (∀ j, 1 ≤ j → j + 1 < q → so_G K (tr_e P n) B (tr_lc K) (re_bd K n) L n (so_it (so_G K (tr_e P n) B (tr_lc K) (re_bd K n) L n) so_t0 j) ≠ so_it (so_G K (tr_e P n) B (tr_lc K) (re_bd K n) L n) so_t0 j) → so_X n 16 (so_it (so_G K (tr_e P n) B (tr_lc K) (re_bd K n) L n) so_t0 q) lv fl pf → (q = 0 → nw = 0 ∧ bf = -1) → (1 ≤ q → nw = nI (so_V n (so_it (so_G K (tr_e P n) B (tr_lc K) (re_bd K n) L n) so_t0 q)) ∧ ct = nI (so_n n (so_it (so_G K (tr_e P n) B (tr_lc K) (re_bd K n) L n) so_t0 q))) → (q = 1 → bf = 0) → (2 ≤ q → bf = nI (so_V n (so_it (so_G K (tr_e P n) B (tr_lc K) (re_bd K n) L n) so_t0 (q - 1)))) → wY_solve_71 post f bf nw ct (nI q) g_cellLimit g_callLimit g_closureLimit (nI n) (nI 0) (nI st) b_kinds b_operands b_parents fl pf b_rec b_sets lv b_done b_fn b_val b_entered b_bind := by
    intro d
    induction d with
    | zero =>
      intro q f bf nw ct lv fl pf hq hf hne
      have h1 := hne 1 (by omega) (by omega)
      have := so_it_bd T h0 (q := 1138) (fun j hj => by
        rcases Nat.eq_zero_or_pos j with z | z
        · subst z
          intro w
          refine h1 ?_
          show so_G K (tr_e P n) B (tr_lc K) (re_bd K n) L n (so_G K (tr_e P n) B (tr_lc K) (re_bd K n) L n so_t0) = so_G K (tr_e P n) B (tr_lc K) (re_bd K n) L n so_t0
          have w' : so_G K (tr_e P n) B (tr_lc K) (re_bd K n) L n so_t0 = so_t0 := w
          rw [w', w']
        · exact hne j z (by omega))
      omega
    | succ d ih =>
      intro q f bf nw ct lv fl pf hq hf hne X c0 c1 c2 c3
      obtain ⟨f, rfl⟩ : ∃ f', f = f' + 1 := ⟨f - 1, by omega⟩
      have R := so_R_it T h0 q
      have Vq := V q
      refine br_f (nI_ge (b := 1200) (by omega) (by decide)) ?_
      by_cases z : nw = bf
      · have q2 : 2 ≤ q := by
          rcases Nat.lt_or_ge q 2 with w | w
          · rcases Nat.eq_zero_or_pos q with y | y
            · have := c0 y
              rw [this.1, this.2] at z
              exact absurd z (by decide)
            · have y1 : q = 1 := by omega
              have a1 := (c1 y).1
              rw [a1, c2 y1] at z
              have p := so_V_pos h0 (so_it_0 T h0 q)
              exact absurd z (nI_ne0 (by omega) (by omega))
          · exact w
        obtain ⟨a1, a2⟩ := c1 (by omega)
        have a3 := c3 q2
        have Vp := V (q - 1)
        rw [a1, a3] at z
        have z' := (nI_eq (by omega) (by omega)).mp z
        obtain ⟨p, rfl⟩ : ∃ p, q = p + 1 := ⟨q - 1, by omega⟩
        rw [Nat.add_sub_cancel] at z' Vp
        have eq : so_G K (tr_e P n) B (tr_lc K) (re_bd K n) L n (so_it (so_G K (tr_e P n) B (tr_lc K) (re_bd K n) L n) so_t0 p) = so_it (so_G K (tr_e P n) B (tr_lc K) (re_bd K n) L n) so_t0 p :=
          so_V_eq hL (so_R_it T h0 p) R (so_ps_up K (tr_e P n) B (tr_lc K) (re_bd K n) L (so_R_it T h0 p).1 n).1 z'.symm
        have es : so_it (so_G K (tr_e P n) B (tr_lc K) (re_bd K n) L n) so_t0 (p + 1) = re_sol K P B n L := by
          show so_G K (tr_e P n) B (tr_lc K) (re_bd K n) L n (so_it (so_G K (tr_e P n) B (tr_lc K) (re_bd K n) L n) so_t0 p) = _
          rw [eq]
          exact so_sol_is T h0 eq
        rw [es] at X a2
        rw [a2]
        rw [a1, a3, Nat.add_sub_cancel]
        refine br_t ?_ (fin lv fl pf X)
        rw [z']
      · refine br_f z ?_
        refine yy_round A hk hpa hod R X (fun lv1 fl1 pf1 X1 => ?_)
        rw [nI_1]
        refine ih (q + 1) f nw _ _ lv1 fl1 pf1 (by omega) (by omega) (fun j j1 j2 => ?_) X1 (fun w => by omega) (fun _ => ⟨rfl, rfl⟩) (fun w => (c0 (by omega)).1) (fun w => ?_)
        · by_cases e : j + 1 = q
          · obtain ⟨a1, a2⟩ := c1 (by omega)
            have a3 := c3 (by omega)
            intro y
            refine z ?_
            have ej : q - 1 = j := by omega
            rw [a1, a3, ej]
            have eq2 : so_it (so_G K (tr_e P n) B (tr_lc K) (re_bd K n) L n) so_t0 q = so_it (so_G K (tr_e P n) B (tr_lc K) (re_bd K n) L n) so_t0 j := by
              rw [← e]; exact y
            rw [eq2]
          · exact hne j j1 (by omega)
        · rw [Nat.add_sub_cancel]
          exact (c1 (by omega)).1
  have start : ∀ d i f lv fl pf, i + d = 48 → d < f → (∀ j, j < i → lv j = nI (if j = 0 then 1 else 0) ∧ fl j = nI 0) → (∀ j, j < i → j < 16 → pf j = nI 0) → wY_solve_19 post (-1) 0 0 g_cellLimit g_callLimit g_closureLimit (nI n) (nI 0) (nI st) f (nI i) b_kinds b_operands b_parents fl pf b_rec b_sets lv b_done b_fn b_val b_entered b_bind := by
    intro d
    induction d with
    | zero =>
      intro i f lv fl pf hi hf h1 h2
      obtain ⟨f, rfl⟩ : ∃ f', f = f' + 1 := ⟨f - 1, by omega⟩
      have e : i = 48 := by omega
      subst e
      refine br_t (by decide) ⟨1142, go 1140 0 1142 (-1) 0 0 lv fl pf (by omega) (by omega) (fun j j1 j2 => by omega) ⟨fun j hj => ?_, fun l hl => ?_⟩ (fun _ => ⟨rfl, rfl⟩) (fun w => by omega) (fun w => by omega) (fun w => by omega)⟩
      · exact h1 j (by omega)
      · exact h2 l (by omega) hl
    | succ d ih =>
      intro i f lv fl pf hi hf h1 h2
      obtain ⟨f, rfl⟩ : ∃ f', f = f' + 1 := ⟨f - 1, by omega⟩
      have v : vp_in (nI i) 48 := vp_in_nI (by omega) (by omega)
      have hc := nI_clamp (n := i) (by omega)
      have hr : nI i - nI i / 16 * 16 = nI (i % 16) := pk_rem (d := 16) (by omega) (by decide) (by decide)
      have vr : vp_in (nI (i % 16)) 16 := vp_in_nI (by omega) (by omega)
      have body : ∀ (b : Nat), b = (if i = 0 then 1 else 0) → wY_solve_42 post (wY_solve_19 post (-1) 0 0 g_cellLimit g_callLimit g_closureLimit (nI n) (nI 0) (nI st) f) (-1) 0 0 (nI i) (nI b) (nI i) g_cellLimit g_callLimit g_closureLimit (nI n) (nI 0) (nI st) b_kinds b_operands b_parents fl pf b_rec b_sets lv b_done b_fn b_val b_entered b_bind := fun b hb => by
        refine ⟨v, nm_e ⟨v, nm_e ⟨by decide, ?_⟩⟩⟩
        rw [hr, hc, nI_clamp (by omega)]
        have eb : vp_nar .boolean (nI b) = nI b := by
          by_cases w : i = 0
          · rw [if_pos w] at hb; subst hb; rfl
          · rw [if_neg w] at hb; subst hb; rfl
        rw [eb]
        refine ⟨vr, nm_e (nm_r (nI_1 i) ?_)⟩
        refine ih (i + 1) f _ _ _ (by omega) (by omega) (fun j hj => ?_) (fun j hj hj16 => ?_)
        · by_cases w : j = i
          · rw [w, re_us, re_us, hb]; exact ⟨rfl, rfl⟩
          · rw [re_un w, re_un w]; exact h1 j (by omega)
        · by_cases w : j = i % 16
          · rw [w, re_us]; rfl
          · rw [re_un w]
            refine h2 j ?_ hj16
            by_cases y : j = i
            · exfalso; omega
            · omega
      refine br_f (nI_ge (b := 48) (by omega) (by decide)) ?_
      by_cases w : i = 0
      · exact br_t (by rw [w]; rfl) (body 1 (if_pos w).symm)
      · exact br_f (nI_ne0 (by omega) (by omega)) (body 0 (if_neg w).symm)
  exact br_t (by decide) ⟨49, start 48 0 49 b_live b_s b_p (by omega) (by omega) (fun j hj => absurd hj (Nat.not_lt_zero j)) (fun j hj => absurd hj (Nat.not_lt_zero j))⟩
end
theorem i_vc_solve {k : Nat} {u : SX} {v : SY} (I : i_Rel k u v) (hk : k + 3 ≤ 1539) : wpX_solve (fun r u' => wpY_solve (fun r' v' => r' = r ∧ i_Rel (k + 3) u' v') v) u := by
  refine i_el (G := fun u v => wpX_solve (fun r u' => wpY_solve (fun r' v' => r' = r ∧ i_Rel (k + 3) u' v') v) u) I ?_
  intro cs cl cm n h L st cn K P N Lv S O B oc nd tg bs en dn et bi f_grown f_runningEngine f_ending f_callCount f_closureCount f_frame f_waitingCount a_kinds a_operands a_parents a_places a_children a_levels a_nests a_scopes a_nodeLambdas a_lambdaNodes a_liveNodes a_nodeFlows a_paramFlows a_entries a_frameReturns a_closureLambdas a_records a_calledSets a_closureValues a_frameValues a_waiting b_s b_p b_live b_fn b_val hI I0
  obtain ⟨A, X, l1, l2, m1, m2, s, S1, S2⟩ := hI
  obtain ⟨hn, hh, hL⟩ := ez_48 A
  by_cases z : h = 0
  · subst z
    refine xx_solve s A X (fun lv fl pf g X1 => ?_)
    refine yy_solve s A (ez_kd A X) X.2.2.2.1 X.2.1 (fun lv2 fl2 pf2 X2 => ⟨rfl, ?_⟩)
    refine i_in (K := K) (P := P) (N := N) (Lv := Lv) (S := S) (O := O) (B := B) (en := en) ?_
    refine ⟨A, X, l1, l2, m1, m2, ?_, fun _ => ⟨rfl, X1, so_X_16 hL X2⟩, fun w => ?_⟩
    · by_cases y : st = 0
      · rw [if_pos y]; omega
      · rw [if_neg y]; exact s
    · have y : ¬ st = 0 := fun y => by rw [if_pos y] at w; omega
      rw [if_neg y] at w
      exact S2 w
  · have nz : ¬ nI h ≤ 0 := nI_nle (by omega) (by omega)
    exact br_f nz (br_f nz ⟨rfl, I0⟩)
end
section
/-! ===== site and form ===== -/
def si_c (K e : Nat → Nat) (t : so_S) (m : Nat) : Nat := if K m = 3 then (if t.1 m = 0 then 1 else if t.2.1 (m + 1) % 65536 = 0 ∨ t.2.1 (e (m + 1)) = 0 then 2 else if t.2.1 (m + 1) &&& (t.2.1 (m + 1) - 1) = 0 then 3 else 4) else 0
theorem si_4 (K e : Nat → Nat) (t : so_S) (m : Nat) : si_c K e t m ≤ 4 := by
  unfold si_c
  by_cases a : K m = 3
  · rw [if_pos a]
    by_cases b : t.1 m = 0
    · rw [if_pos b]; omega
    · rw [if_neg b]
      by_cases c : t.2.1 (m + 1) % 65536 = 0 ∨ t.2.1 (e (m + 1)) = 0
      · rw [if_pos c]; omega
      · rw [if_neg c]
        by_cases d : t.2.1 (m + 1) &&& (t.2.1 (m + 1) - 1) = 0
        · rw [if_pos d]; omega
        · rw [if_neg d]; omega
  · rw [if_neg a]; omega
/-- both sides ask the same of the two masks -/
theorem si_ask {post : Int32 → Prop} {f a : Nat} (hf : f < 131072) (ha : a < 131072) (h : post (nI (if f % 65536 = 0 ∨ a = 0 then 2 else if f &&& (f - 1) = 0 then 3 else 4))) : ((nI f &&& 65535) = 0 → post 2) ∧ (¬ (nI f &&& 65535) = 0 → ((nI a = 0 → post 2) ∧ (¬ nI a = 0 → (((nI f &&& (nI f - 1)) = 0 → post 3) ∧ (¬ (nI f &&& (nI f - 1)) = 0 → post 4))))) := by
  by_cases z : f % 65536 = 0
  · rw [if_pos (Or.inl z)] at h
    exact br_t ((bi_65535 (by omega)).mpr z) h
  · refine br_f (fun w => z ((bi_65535 (by omega)).mp w)) ?_
    by_cases y : a = 0
    · rw [if_pos (Or.inr y)] at h
      exact br_t ((bi_0 (by omega)).mpr y) h
    · rw [if_neg (by rintro (q | q); exact z q; exact y q)] at h
      refine br_f (fun w => y ((bi_0 (by omega)).mp w)) ?_
      have f0 : 0 < f := by
        rcases Nat.eq_zero_or_pos f with q | q
        · subst q; exact absurd rfl z
        · exact q
      by_cases x : f &&& (f - 1) = 0
      · rw [if_pos x] at h
        exact br_t ((bi_low (by omega) f0).mpr x) h
      · rw [if_neg x] at h
        exact br_f (fun w => x ((bi_low (by omega) f0).mp w)) h
def fo_l (si : Nat → Nat) (b : Nat → Bool) : Nat → Nat → Nat
  | 0, _ => 1
  | d + 1, i => if si i = 4 ∧ b i = true then 2 else fo_l si b d (i + 1)
def fo_c (K e bd : Nat → Nat) (t : so_S) (n l : Nat) : Nat := if t.1 (bd l) = 0 then 0 else fo_l (si_c K e t) (fun i => (t.2.1 (i + 1)).testBit l) n 0
theorem fo_2 (si : Nat → Nat) (b : Nat → Bool) : ∀ d i, 1 ≤ fo_l si b d i ∧ fo_l si b d i ≤ 2 := by
  intro d
  induction d with
  | zero => intro i; exact ⟨Nat.le_refl _, by show (1 : Nat) ≤ 2; omega⟩
  | succ d ih =>
    intro i
    show 1 ≤ (if si i = 4 ∧ b i = true then 2 else fo_l si b d (i + 1)) ∧ (if si i = 4 ∧ b i = true then 2 else fo_l si b d (i + 1)) ≤ 2
    by_cases z : si i = 4 ∧ b i = true
    · rw [if_pos z]; omega
    · rw [if_neg z]; exact ih (i + 1)
theorem fo_c2 (K e bd : Nat → Nat) (t : so_S) (n l : Nat) : fo_c K e bd t n l ≤ 2 := by
  unfold fo_c
  by_cases z : t.1 (bd l) = 0
  · rw [if_pos z]; omega
  · rw [if_neg z]; exact (fo_2 _ _ n 0).2
section
variable {f_cellLimit f_callLimit f_closureLimit f_nodes f_holes f_lambdas f_stageReached f_grown f_codeLength f_runningEngine f_ending f_callCount f_closureCount f_frame f_waitingCount : Int32} {a_kinds a_operands a_parents a_places a_children a_levels a_nests a_scopes a_nodeLambdas a_lambdaNodes a_liveNodes a_nodeFlows a_paramFlows a_codeOps a_codeNodes a_codeTargets a_branchSpots a_entries a_frameReturns a_closureLambdas a_records a_calledSets : Nat → Int32} {a_closureValues a_frameValues a_waiting : Nat → Int64}
variable {cs n L : Nat} {K P N Lv S O B : Nat → Nat} {t : so_S}
theorem xx_siteOf {post : Int32 → Prop} {m : Nat} (A : re_A cs n 0 L K P N Lv S O B) (XT : re_X n K P N Lv S O B a_kinds a_operands a_parents a_places a_children a_levels a_nests a_scopes a_nodeLambdas a_lambdaNodes) (hm : m < n) (R : so_R n L t) (X : so_X n L t a_liveNodes a_nodeFlows a_paramFlows) (h : post (nI (si_c K (tr_e P n) t m))) : wpX_siteOf post (f_cellLimit, f_callLimit, f_closureLimit, f_nodes, f_holes, f_lambdas, f_stageReached, f_grown, f_codeLength, f_runningEngine, f_ending, f_callCount, f_closureCount, f_frame, f_waitingCount, a_kinds, a_operands, a_parents, a_places, a_children, a_levels, a_nests, a_scopes, a_nodeLambdas, a_lambdaNodes, a_liveNodes, a_nodeFlows, a_paramFlows, a_codeOps, a_codeNodes, a_codeTargets, a_branchSpots, a_entries, a_frameReturns, a_frameValues, a_closureLambdas, a_closureValues, a_waiting, a_records, a_calledSets) (nI m) := by
  have hn : n ≤ 48 := by have := A.2.2.1; have := A.2.2.2.1; omega
  have hL : L ≤ 16 := A.2.2.2.2.2.1
  have k6 := (A.2.2.2.2.2.2.2.2.2.1 m hm).1
  have ms := fun i => so_ms_lt hL (R.2.2.2.1 i)
  have vm : vp_in (nI m) 48 := vp_in_nI (by omega) (by omega)
  have hcm := nI_clamp (n := m) (by omega)
  refine ⟨vm, ?_⟩
  rw [hcm, XT.1 m hm]
  unfold si_c at h
  by_cases k : K m = 3
  · rw [if_pos k] at h
    refine br_t (by rw [k]; rfl) ⟨vm, ?_⟩
    rw [(X.1 m hm).1]
    have h1 := R.1 m
    by_cases z : t.1 m = 0
    · rw [if_pos z] at h
      rw [z]
      exact br_t rfl h
    · rw [if_neg z] at h
      obtain ⟨r1, r2, _⟩ := re_kid0 A XT hm (by omega)
      obtain ⟨s1, s2, _⟩ := re_kid1 A XT hm (by omega)
      refine br_f (nI_ne0 (by omega) (by omega)) (xx_childAt (k := 0) (by omega) (by omega) ?_)
      rw [r2]
      refine ⟨vp_in_nI (by omega) (by omega), ?_⟩
      rw [nI_clamp (by omega)]
      refine nm_r (X.1 _ r1).2 (xx_childAt (k := 1) (by omega) (by omega) ?_)
      rw [s2]
      refine ⟨vp_in_nI (by omega) (by omega), ?_⟩
      rw [nI_clamp (by omega)]
      exact nm_r (X.1 _ s1).2 (si_ask (ms _) (ms _) h)
  · rw [if_neg k] at h
    exact br_f (fun w => k ((nI_eq (b := 3) (by omega) (by decide)).mp w)) h
theorem xx_formOf {post : Int32 → Prop} {l : Nat} (A : re_A cs n 0 L K P N Lv S O B) (XT : re_X n K P N Lv S O B a_kinds a_operands a_parents a_places a_children a_levels a_nests a_scopes a_nodeLambdas a_lambdaNodes) (hl : l < L) (R : so_R n L t) (X : so_X n L t a_liveNodes a_nodeFlows a_paramFlows) (h : post (nI (fo_c K (tr_e P n) (re_bd K n) t n l))) : wpX_formOf post (f_cellLimit, f_callLimit, f_closureLimit, (nI n), f_holes, f_lambdas, f_stageReached, f_grown, f_codeLength, f_runningEngine, f_ending, f_callCount, f_closureCount, f_frame, f_waitingCount, a_kinds, a_operands, a_parents, a_places, a_children, a_levels, a_nests, a_scopes, a_nodeLambdas, a_lambdaNodes, a_liveNodes, a_nodeFlows, a_paramFlows, a_codeOps, a_codeNodes, a_codeTargets, a_branchSpots, a_entries, a_frameReturns, a_frameValues, a_closureLambdas, a_closureValues, a_waiting, a_records, a_calledSets) (nI l) := by
  have hn : n ≤ 48 := by have := A.2.2.1; have := A.2.2.2.1; omega
  have hL : L ≤ 16 := A.2.2.2.2.2.1
  have hLn := A.2.2.2.2.1
  have ms := fun i => so_ms_lt hL (R.2.2.2.1 i)
  obtain ⟨q1, q2, q3⟩ := tr_ln_of (K := K) (n := n) (l := l) (by omega)
  obtain ⟨r1, r2, _⟩ := re_kid0 A XT q1 (by omega)
  have e := XT.2.2.2.2.2.2.2.2 _ q1 q2
  rw [q3] at e
  unfold wpX_formOf
  refine xx_bodyOf (by omega) (by omega) e ?_
  rw [show tr_ln K n l * 3 = tr_ln K n l * 3 + 0 from rfl, r2]
  refine ⟨vp_in_nI (by omega) (by omega), ?_⟩
  rw [nI_clamp (by omega), (X.1 _ r1).1]
  have h1 := R.1 (tr_ln K n l + 1)
  have h' : post (nI (if t.1 (tr_ln K n l + 1) = 0 then 0 else fo_l (si_c K (tr_e P n) t) (fun i => (t.2.1 (i + 1)).testBit l) n 0)) := h
  by_cases z : t.1 (tr_ln K n l + 1) = 0
  · rw [if_pos z] at h'
    rw [z]
    exact br_t rfl h'
  · rw [if_neg z] at h'
    refine br_f (nI_ne0 (by omega) (by omega)) ⟨n + 1, ?_⟩
    have go : ∀ d i f, i + d = n → d < f → post (nI (fo_l (si_c K (tr_e P n) t) (fun i => (t.2.1 (i + 1)).testBit l) d i)) → wX_formOf_17 post (nI l) f_cellLimit f_callLimit f_closureLimit (nI n) f_holes f_lambdas f_stageReached f_grown f_codeLength f_runningEngine f_ending f_callCount f_closureCount f_frame f_waitingCount a_kinds a_operands a_parents a_places a_children a_levels a_nests a_scopes a_nodeLambdas a_lambdaNodes a_liveNodes a_nodeFlows a_paramFlows a_codeOps a_codeNodes a_codeTargets a_branchSpots a_entries a_frameReturns a_frameValues a_closureLambdas a_closureValues a_waiting a_records a_calledSets f (nI i) := by
      intro d
      induction d with
      | zero =>
        intro i f hi hf hp
        obtain ⟨f, rfl⟩ : ∃ f', f = f' + 1 := ⟨f - 1, by omega⟩
        have e : i = n := by omega
        subst e
        exact br_t (nI_le (Nat.le_refl _) (by omega)) hp
      | succ d ih =>
        intro i f hi hf hp
        obtain ⟨f, rfl⟩ : ∃ f', f = f' + 1 := ⟨f - 1, by omega⟩
        have hp' : post (nI (if si_c K (tr_e P n) t i = 4 ∧ (t.2.1 (i + 1)).testBit l = true then 2 else fo_l (si_c K (tr_e P n) t) (fun i => (t.2.1 (i + 1)).testBit l) d (i + 1))) := hp
        refine br_f (nI_ge (by omega) (by omega)) (xx_siteOf A XT (by omega) R X ?_)
        have s4 := si_4 K (tr_e P n) t i
        by_cases y : si_c K (tr_e P n) t i = 4
        · have k3 : K i = 3 := by
            by_cases w : K i = 3
            · exact w
            · unfold si_c at y
              rw [if_neg w] at y
              omega
          obtain ⟨u1, u2, _⟩ := re_kid0 A XT (show i < n by omega) (by omega)
          have mi := ms (i + 1)
          refine br_t (by rw [y]; rfl) (xx_childAt (k := 0) (by omega) (by omega) ?_)
          rw [u2]
          refine ⟨vp_in_nI (by omega) (by omega), ?_⟩
          rw [nI_clamp (by omega), (X.1 _ u1).2]
          cases w : (t.2.1 (i + 1)).testBit l with
          | false =>
            rw [if_neg (by rw [w]; rintro ⟨_, q⟩; cases q)] at hp'
            exact br_t ((bi_test (by omega) (by omega)).mpr w) (nm_r (nI_1 i) (ih (i + 1) f (by omega) (by omega) hp'))
          | true =>
            rw [if_pos ⟨y, w⟩] at hp'
            exact br_f (fun q => by rw [(bi_test (by omega) (by omega)).mp q] at w; cases w) hp'
        · rw [if_neg (fun q => y q.1)] at hp'
          refine br_f (fun q => y ((nI_eq (b := 4) (by omega) (by decide)).mp q)) (nm_r (nI_1 i) (ih (i + 1) f (by omega) (by omega) hp'))
    exact go n 0 (n + 1) (by omega) (by omega) h'
end
section
variable {g_cellLimit g_callLimit g_closureLimit g_nodes g_holes g_reached : Int32} {b_kinds b_operands b_parents b_s b_p b_rec b_sets b_live b_done b_fn b_val b_entered b_bind : Nat → Int32}
variable {cs n L : Nat} {K P N Lv S O B : Nat → Nat} {t : so_S}
theorem yy_site {post : Int32 → Prop} {m st : Nat} (A : re_A cs n 0 L K P N Lv S O B) (hk : ∀ m, m < n → b_kinds m = nI (K m) ∧ K m ≤ 6) (hpa : ∀ m, 0 < m → m < n → b_parents m = nI (P m)) (hst : 1 ≤ st) (hst2 : st ≤ 2) (hm : m < n) (R : so_R n L t) (X : so_X n L t b_live b_s b_p) (h : post (nI (si_c K (tr_e P n) t m))) : wpY_site post (g_cellLimit, g_callLimit, g_closureLimit, (nI n), g_holes, (nI st), b_kinds, b_operands, b_parents, b_s, b_p, b_rec, b_sets, b_live, b_done, b_fn, b_val, b_entered, b_bind) (nI m) := by
  have hn : n ≤ 48 := by have := A.2.2.1; have := A.2.2.2.1; omega
  have hL : L ≤ 16 := A.2.2.2.2.2.1
  have ms := fun i => so_ms_lt hL (R.2.2.2.1 i)
  obtain ⟨k1, k6⟩ := hk m hm
  have vm : vp_in (nI m) 48 := vp_in_nI (by omega) (by omega)
  have hcm := nI_clamp (n := m) (by omega)
  refine br_f (fun w => by have := (ez_st hst2).1.mp w; omega) (yy_has hn (fun z => ?_) (fun _ _ _ => br_f (by decide) ⟨vm, ?_⟩))
  · rcases z with z | z
    · exact absurd z (nI_pos (by omega))
    · exact absurd z (nI_ge hm (by omega))
  rw [hcm, k1]
  unfold si_c at h
  by_cases k : K m = 3
  · rw [if_pos k] at h
    refine br_t (by rw [k]; rfl) ⟨vm, ?_⟩
    rw [(X.1 m hm).1]
    have h1 := R.1 m
    by_cases z : t.1 m = 0
    · rw [if_pos z] at h
      rw [z]
      refine br_t rfl ⟨vm, ?_⟩
      rw [hcm, k1]
      exact br_t (by rw [k]; rfl) h
    · rw [if_neg z] at h
      obtain ⟨_, F⟩ := re_full A
      obtain ⟨r1, r2⟩ := tr_par1 A.1 F hm (by omega)
      obtain ⟨s0, s1, s2⟩ := tr_par2 A.1 F hm (by omega)
      refine br_f (nI_ne0 (by omega) (by omega)) (yy_kid0 A hpa hm (by omega) ⟨vp_in_nI (by omega) (by omega), ?_⟩)
      rw [nI_clamp (by omega)]
      refine nm_r (X.1 _ r1).2 (yy_kid1 A hpa hm (by omega) ⟨vp_in_nI (by omega) (by omega), ?_⟩)
      rw [nI_clamp (by omega)]
      exact nm_r (X.1 _ s1).2 (si_ask (ms _) (ms _) h)
  · rw [if_neg k] at h
    have n3 : ¬ nI (K m) = 3 := fun w => k ((nI_eq (b := 3) (by omega) (by decide)).mp w)
    refine br_f n3 ⟨vm, ?_⟩
    rw [hcm, k1]
    exact br_f n3 h
theorem yy_form {post : Int32 → Prop} {l st : Nat} (A : re_A cs n 0 L K P N Lv S O B) (hk : ∀ m, m < n → b_kinds m = nI (K m) ∧ K m ≤ 6) (hpa : ∀ m, 0 < m → m < n → b_parents m = nI (P m)) (hst : 1 ≤ st) (hst2 : st ≤ 2) (hl : l < L) (R : so_R n L t) (X : so_X n L t b_live b_s b_p) (h : post (nI (fo_c K (tr_e P n) (re_bd K n) t n l))) : wpY_form post (g_cellLimit, g_callLimit, g_closureLimit, (nI n), g_holes, (nI st), b_kinds, b_operands, b_parents, b_s, b_p, b_rec, b_sets, b_live, b_done, b_fn, b_val, b_entered, b_bind) (nI l) := by
  have hn : n ≤ 48 := by have := A.2.2.1; have := A.2.2.2.1; omega
  have hL : L ≤ 16 := A.2.2.2.2.2.1
  have hLn := A.2.2.2.2.1
  have ms := fun i => so_ms_lt hL (R.2.2.2.1 i)
  obtain ⟨_, F⟩ := re_full A
  unfold wpY_form
  refine yy_lambdaNode hn hk (fun a ha ka ea => ?_) (fun w => ?_)
  · have la := tr_lc_lt ha ka
    have el : l = tr_lc K a := (nI_eq (by omega) (by omega)).mp ea
    have eb : re_bd K n l = a + 1 := by rw [el]; exact re_bd_is a ha ka
    obtain ⟨r1, r2⟩ := tr_par1 A.1 F ha (by omega)
    refine br_f (fun w => by have := (ez_st hst2).1.mp w; omega) (br_t (nI_pos' (by omega)) ?_)
    rw [nI_1]
    refine ⟨vp_in_nI (by omega) (by omega), ?_⟩
    rw [nI_clamp (by omega), (X.1 _ r1).1]
    have h1 := R.1 (a + 1)
    have h' : post (nI (if t.1 (re_bd K n l) = 0 then 0 else fo_l (si_c K (tr_e P n) t) (fun i => (t.2.1 (i + 1)).testBit l) n 0)) := h
    rw [eb] at h'
    by_cases z : t.1 (a + 1) = 0
    · rw [if_pos z] at h'
      rw [z]
      exact br_t rfl h'
    · rw [if_neg z] at h'
      refine br_f (nI_ne0 (by omega) (by omega)) ⟨n + 1, ?_⟩
      have go : ∀ d i f, i + d = n → d < f → post (nI (fo_l (si_c K (tr_e P n) t) (fun i => (t.2.1 (i + 1)).testBit l) d i)) → wY_form_35 post (nI l) g_cellLimit g_callLimit g_closureLimit (nI n) g_holes (nI st) b_kinds b_operands b_parents b_s b_p b_rec b_sets b_live b_done b_fn b_val b_entered b_bind f (nI i) := by
        intro d
        induction d with
        | zero =>
          intro i f hi hf hp
          obtain ⟨f, rfl⟩ : ∃ f', f = f' + 1 := ⟨f - 1, by omega⟩
          have e : i = n := by omega
          subst e
          exact br_t (nI_le (Nat.le_refl _) (by omega)) hp
        | succ d ih =>
          intro i f hi hf hp
          obtain ⟨f, rfl⟩ : ∃ f', f = f' + 1 := ⟨f - 1, by omega⟩
          have hp' : post (nI (if si_c K (tr_e P n) t i = 4 ∧ (t.2.1 (i + 1)).testBit l = true then 2 else fo_l (si_c K (tr_e P n) t) (fun i => (t.2.1 (i + 1)).testBit l) d (i + 1))) := hp
          refine br_f (nI_ge (by omega) (by omega)) (yy_site A hk hpa hst hst2 (by omega) R X ?_)
          have s4 := si_4 K (tr_e P n) t i
          by_cases y : si_c K (tr_e P n) t i = 4
          · have k3 : K i = 3 := by
              by_cases w : K i = 3
              · exact w
              · unfold si_c at y
                rw [if_neg w] at y
                omega
            obtain ⟨u1, u2⟩ := tr_par1 A.1 F (show i < n by omega) (by omega)
            have mi := ms (i + 1)
            refine br_t (by rw [y]; rfl) (yy_kid0 A hpa (by omega) (by omega) ⟨vp_in_nI (by omega) (by omega), ?_⟩)
            rw [nI_clamp (by omega), (X.1 _ u1).2]
            cases w : (t.2.1 (i + 1)).testBit l with
            | false =>
              rw [if_neg (by rw [w]; rintro ⟨_, q⟩; cases q)] at hp'
              exact br_t ((bi_shr (by omega) (by omega)).mpr w) (nm_r (nI_1 i) (ih (i + 1) f (by omega) (by omega) hp'))
            | true =>
              rw [if_pos ⟨y, w⟩] at hp'
              exact br_f (fun q => by rw [(bi_shr (by omega) (by omega)).mp q] at w; cases w) hp'
          · rw [if_neg (fun q => y q.1)] at hp'
            refine br_f (fun q => y ((nI_eq (b := 4) (by omega) (by decide)).mp q)) (nm_r (nI_1 i) (ih (i + 1) f (by omega) (by omega) hp'))
      exact go n 0 (n + 1) (by omega) (by omega) h'
  · obtain ⟨a, a1, a2, a3⟩ := tr_lc_find (K := K) (l := l) n (by omega)
    exact absurd (by rw [a3]) (w a a1 a2)
end
theorem i_vc_site {k : Nat} {u : SX} {v : SY} (I : i_Rel k u v) (hk : k + 3 ≤ 1539) (v1 : Int32) : wpX_site (fun r => wpY_site (fun r' => r' = r ∧ i_Rel (k + 3) u v) v v1) u v1 := by
  refine i_el (G := fun u v => wpX_site (fun r => wpY_site (fun r' => r' = r ∧ i_Rel (k + 3) u v) v v1) u v1) I ?_
  intro cs cl cm n h L st cn K P N Lv S O B oc nd tg bs en dn et bi f_grown f_runningEngine f_ending f_callCount f_closureCount f_frame f_waitingCount a_kinds a_operands a_parents a_places a_children a_levels a_nests a_scopes a_nodeLambdas a_lambdaNodes a_liveNodes a_nodeFlows a_paramFlows a_entries a_frameReturns a_closureLambdas a_records a_calledSets a_closureValues a_frameValues a_waiting b_s b_p b_live b_fn b_val hI I0
  obtain ⟨A, X, l1, l2, m1, m2, s, S1, S2⟩ := hI
  obtain ⟨hn, hh, hL⟩ := ez_48 A
  unfold wpX_site
  refine xx_isSolvedNode hn s (fun z => ?_) (fun j h1 hj e => ?_)
  · refine br_t rfl ?_
    rcases z with z | ⟨z, y⟩
    · exact br_t ((ez_st s).1.mpr z) ⟨rfl, I0⟩
    · refine br_f (fun w => by have := (ez_st s).1.mp w; omega) (yy_has hn (fun _ => br_t rfl ⟨rfl, I0⟩) (fun j hj e => ?_))
      subst e
      rcases y with y | y
      · exact absurd y (nI_pos (by omega))
      · exact absurd y (nI_ge hj (by omega))
  · refine br_f (by decide) ?_
    subst e
    obtain ⟨h0, a1, a2⟩ := S1 h1
    subst h0
    have R := so_sol_R (re_so_T A (re_bd_is (K := K) (n := n))) (re_full A).1
    exact xx_siteOf A X hj R a1 (yy_site A (ez_kd A X) X.2.2.2.1 h1 s hj R a2 ⟨rfl, I0⟩)
theorem i_vc_form {k : Nat} {u : SX} {v : SY} (I : i_Rel k u v) (hk : k + 3 ≤ 1539) (v1 : Int32) : wpX_form (fun r => wpY_form (fun r' => r' = r ∧ i_Rel (k + 3) u v) v v1) u v1 := by
  refine i_el (G := fun u v => wpX_form (fun r => wpY_form (fun r' => r' = r ∧ i_Rel (k + 3) u v) v v1) u v1) I ?_
  intro cs cl cm n h L st cn K P N Lv S O B oc nd tg bs en dn et bi f_grown f_runningEngine f_ending f_callCount f_closureCount f_frame f_waitingCount a_kinds a_operands a_parents a_places a_children a_levels a_nests a_scopes a_nodeLambdas a_lambdaNodes a_liveNodes a_nodeFlows a_paramFlows a_entries a_frameReturns a_closureLambdas a_records a_calledSets a_closureValues a_frameValues a_waiting b_s b_p b_live b_fn b_val hI I0
  obtain ⟨A, X, l1, l2, m1, m2, s, S1, S2⟩ := hI
  obtain ⟨hn, hh, hL⟩ := ez_48 A
  have hLn := A.2.2.2.2.1
  unfold wpX_form
  refine xx_isSolvedLambda hL s (fun z => ?_) (fun j h1 hj e => ?_)
  · refine br_t rfl ?_
    rcases z with z | ⟨z, y⟩
    · have q := (ez_st s).1.mpr z
      unfold wpY_form
      exact yy_lambdaNode hn (ez_kd A X) (fun m hm km e => br_t q ⟨rfl, I0⟩) (fun _ => br_t q ⟨rfl, I0⟩)
    · have q : ¬ nI st < 1 := fun w => by have := (ez_st s).1.mp w; omega
      unfold wpY_form
      refine yy_lambdaNode hn (ez_kd A X) (fun m hm km e => ?_) (fun _ => br_f q (br_f (by decide) ⟨rfl, I0⟩))
      subst e
      have := tr_lc_lt hm km
      rcases y with y | y
      · exact absurd y (nI_pos (by omega))
      · exact absurd y (nI_ge (by omega) (by omega))
  · refine br_f (by decide) ?_
    subst e
    obtain ⟨h0, a1, a2⟩ := S1 h1
    subst h0
    have R := so_sol_R (re_so_T A (re_bd_is (K := K) (n := n))) (re_full A).1
    exact xx_formOf A X hj R a1 (yy_form A (ez_kd A X) X.2.2.2.1 h1 s hj R a2 ⟨rfl, I0⟩)
end
section
/-! ===== captures ===== -/
def ca_m (q : Nat → Bool) (B : Nat → Nat) : Nat → Nat
  | 0 => 0
  | i + 1 => if q i = true then ca_m q B i ||| 2 ^ B i else ca_m q B i
theorem ca_p (b s : Nat) : 2 ^ b &&& s = if s.testBit b = true then 2 ^ b else 0 := by
  apply Nat.eq_of_testBit_eq
  intro i
  rw [Nat.testBit_and, Nat.testBit_two_pow]
  by_cases e : b = i
  · subst e
    rw [decide_eq_true rfl, Bool.true_and]
    cases w : s.testBit b with
    | true => rw [if_pos rfl, Nat.testBit_two_pow_self]
    | false => rw [if_neg (by decide), Nat.zero_testBit]
  · rw [decide_eq_false e, Bool.false_and]
    cases w : s.testBit b with
    | true => rw [if_pos rfl, Nat.testBit_two_pow, decide_eq_false e]
    | false => rw [if_neg (by decide), Nat.zero_testBit]
theorem ca_and (q : Nat → Bool) (B : Nat → Nat) (s : Nat) : ∀ i, ca_m q B i &&& s = ca_m (fun i => q i && s.testBit (B i)) B i := by
  intro i
  induction i with
  | zero => exact Nat.zero_and s
  | succ i ih =>
    show (if q i = true then ca_m q B i ||| 2 ^ B i else ca_m q B i) &&& s = (if (q i && s.testBit (B i)) = true then ca_m (fun i => q i && s.testBit (B i)) B i ||| 2 ^ B i else ca_m (fun i => q i && s.testBit (B i)) B i)
    cases h : q i with
    | false => rw [if_neg (by decide), Bool.false_and, if_neg (by decide), ih]
    | true =>
      rw [if_pos rfl, Bool.true_and, Nat.and_or_distrib_right, ih, ca_p]
      cases w : s.testBit (B i) with
      | true => rw [if_pos rfl, if_pos rfl]
      | false => rw [if_neg (by decide), if_neg (by decide), Nat.or_zero]
theorem ca_0 {q : Nat → Bool} {B : Nat → Nat} : ∀ i, (∀ j, j < i → q j = false) → ca_m q B i = 0 := by
  intro i
  induction i with
  | zero => intro _; rfl
  | succ i ih =>
    intro h
    show (if q i = true then ca_m q B i ||| 2 ^ B i else ca_m q B i) = 0
    rw [h i (by omega), if_neg (by decide)]
    exact ih (fun j hj => h j (by omega))
def ca_q (K S : Nat → Nat) (t : so_S) (l i : Nat) : Bool := decide (K i = 0) && decide (t.1 i = 1) && (S i).testBit l
section
variable {f_cellLimit f_callLimit f_closureLimit f_nodes f_holes f_lambdas f_stageReached f_grown f_codeLength f_runningEngine f_ending f_callCount f_closureCount f_frame f_waitingCount : Int32} {a_kinds a_operands a_parents a_places a_children a_levels a_nests a_scopes a_nodeLambdas a_lambdaNodes a_liveNodes a_nodeFlows a_paramFlows a_codeOps a_codeNodes a_codeTargets a_branchSpots a_entries a_frameReturns a_closureLambdas a_records a_calledSets : Nat → Int32} {a_closureValues a_frameValues a_waiting : Nat → Int64}
variable {cs n L : Nat} {K P N Lv S O B : Nat → Nat} {t : so_S}
theorem xx_capt {post : Int32 → Prop} {l s : Nat} (A : re_A cs n 0 L K P N Lv S O B) (XT : re_X n K P N Lv S O B a_kinds a_operands a_parents a_places a_children a_levels a_nests a_scopes a_nodeLambdas a_lambdaNodes) (hl : l < L) (h01 : so_01 t) (X : so_X n L t a_liveNodes a_nodeFlows a_paramFlows) (h : post (nI (ca_m (ca_q K S t l) B n &&& s))) : ∃ f, wX_captures_27 post (nI l) (nI s) f_cellLimit f_callLimit f_closureLimit (nI n) f_holes f_lambdas f_stageReached f_grown f_codeLength f_runningEngine f_ending f_callCount f_closureCount f_frame f_waitingCount a_kinds a_operands a_parents a_places a_children a_levels a_nests a_scopes a_nodeLambdas a_lambdaNodes a_liveNodes a_nodeFlows a_paramFlows a_codeOps a_codeNodes a_codeTargets a_branchSpots a_entries a_frameReturns a_frameValues a_closureLambdas a_closureValues a_waiting a_records a_calledSets f (nI 0) (nI 0) := by
  have hn : n ≤ 48 := by have := A.2.2.1; have := A.2.2.2.1; omega
  have hL : L ≤ 16 := A.2.2.2.2.2.1
  have hLn := A.2.2.2.2.1
  have D := A.2.2.2.2.2.2.2.2.2.1
  have go : ∀ d i f, i + d = n → d < f → wX_captures_27 post (nI l) (nI s) f_cellLimit f_callLimit f_closureLimit (nI n) f_holes f_lambdas f_stageReached f_grown f_codeLength f_runningEngine f_ending f_callCount f_closureCount f_frame f_waitingCount a_kinds a_operands a_parents a_places a_children a_levels a_nests a_scopes a_nodeLambdas a_lambdaNodes a_liveNodes a_nodeFlows a_paramFlows a_codeOps a_codeNodes a_codeTargets a_branchSpots a_entries a_frameReturns a_frameValues a_closureLambdas a_closureValues a_waiting a_records a_calledSets f (nI (ca_m (ca_q K S t l) B i)) (nI i) := by
    intro d
    induction d with
    | zero =>
      intro i f hi hf
      obtain ⟨f, rfl⟩ : ∃ f', f = f' + 1 := ⟨f - 1, by omega⟩
      have e : i = n := by omega
      subst e
      refine br_t (nI_le (Nat.le_refl _) (by omega)) ?_
      rw [bi_and]
      exact h
    | succ d ih =>
      intro i f hi hf
      obtain ⟨f, rfl⟩ : ∃ f', f = f' + 1 := ⟨f - 1, by omega⟩
      have hin : i < n := by omega
      have nx := ih (i + 1) f (by omega) (by omega)
      have nx' : wX_captures_27 post (nI l) (nI s) f_cellLimit f_callLimit f_closureLimit (nI n) f_holes f_lambdas f_stageReached f_grown f_codeLength f_runningEngine f_ending f_callCount f_closureCount f_frame f_waitingCount a_kinds a_operands a_parents a_places a_children a_levels a_nests a_scopes a_nodeLambdas a_lambdaNodes a_liveNodes a_nodeFlows a_paramFlows a_codeOps a_codeNodes a_codeTargets a_branchSpots a_entries a_frameReturns a_frameValues a_closureLambdas a_closureValues a_waiting a_records a_calledSets f (nI (if ca_q K S t l i = true then ca_m (ca_q K S t l) B i ||| 2 ^ B i else ca_m (ca_q K S t l) B i)) (nI (i + 1)) := nx
      have v : vp_in (nI i) 48 := vp_in_nI (by omega) (by omega)
      have hc := nI_clamp (n := i) (by omega)
      obtain ⟨d1, d2, d3, d4, d5⟩ := D i hin
      refine br_f (nI_ge (by omega) (by omega)) ⟨v, ?_⟩
      rw [hc, (XT.2.2.2.2.2.2.1 i hin).2.2]
      cases z : (S i).testBit l with
      | false =>
        have e : ca_q K S t l i = false := by unfold ca_q; rw [z, Bool.and_false]
        rw [e, if_neg (by decide)] at nx'
        exact br_t ((bi_test (by omega) (by omega)).mpr z) (br_t rfl (nm_r (nI_1 i) nx'))
      | true =>
        refine br_f (fun w => by rw [(bi_test (by omega) (by omega)).mp w] at z; cases z) (br_f (by decide) ⟨v, ?_⟩)
        rw [hc, XT.1 i hin]
        by_cases k : K i = 0
        · refine br_t (by rw [k]; rfl) ⟨v, ?_⟩
          rw [(X.1 i hin).1]
          have h1 := h01 i
          by_cases w : t.1 i = 1
          · have e : ca_q K S t l i = true := by unfold ca_q; rw [z, decide_eq_true k, decide_eq_true w]; rfl
            rw [e, if_pos rfl] at nx'
            have hB : B i < L := by
              obtain ⟨a1, b, b1, b2, b3, b4, b5⟩ := A.2.2.2.2.2.2.2.2.2.2 i hin k
              rw [b4, hLn]
              exact tr_lc_lt (by omega) b2
            refine br_f (nI_ne0 (by omega) (by omega)) ⟨v, ?_⟩
            rw [(XT.2.2.2.2.2.2.2.1 i hin).1 k, bi_shl _ (by omega), bi_or]
            exact nm_e (nm_r (nI_1 i) nx')
          · have w0 : t.1 i = 0 := by omega
            have e : ca_q K S t l i = false := by unfold ca_q; rw [decide_eq_false w, Bool.and_false, Bool.false_and]
            rw [e, if_neg (by decide)] at nx'
            exact br_t (by rw [w0]; rfl) (nm_r (nI_1 i) nx')
        · have e : ca_q K S t l i = false := by unfold ca_q; rw [decide_eq_false k, Bool.false_and, Bool.false_and]
          rw [e, if_neg (by decide)] at nx'
          exact br_f (fun w => k ((nI_eq (b := 0) (by omega) (by decide)).mp w)) (nm_r (nI_1 i) nx')
  exact ⟨n + 1, go n 0 (n + 1) (by omega) (by omega)⟩
end
section
variable {g_cellLimit g_callLimit g_closureLimit g_nodes g_holes g_reached : Int32} {b_kinds b_operands b_parents b_s b_p b_rec b_sets b_live b_done b_fn b_val b_entered b_bind : Nat → Int32}
variable {cs n h L : Nat} {K P N Lv S O B : Nat → Nat} {t : so_S}
theorem yy_capt {post : Int32 → Prop} {z : Nat} (A : re_A cs n h L K P N Lv S O B) (hk : ∀ m, m < n → b_kinds m = nI (K m) ∧ K m ≤ 6) (hpa : ∀ m, 0 < m → m < n → b_parents m = nI (P m)) (hp0 : 0 < n → b_parents 0 = -1) (hod : ∀ m, m < n → K m = 0 → b_operands m = nI (O m)) (hz : z < n) (kz : K z = 2) (h01 : so_01 t) (X : so_X n L t b_live b_s b_p) (hpost : post (nI (ca_m (fun i => ca_q K S t (tr_lc K z) i && (S z).testBit (B i)) B n))) : ∃ f, wY_captures_27 post (nI z) g_cellLimit g_callLimit g_closureLimit (nI n) g_holes g_reached b_kinds b_operands b_parents b_s b_p b_rec b_sets b_live b_done b_fn b_val b_entered b_bind f (nI 0) (nI (z + 1)) := by
  have hn : n ≤ 48 := by have := A.2.2.1; have := A.2.2.2.1; omega
  have hL : L ≤ 16 := A.2.2.2.2.2.1
  have hLn := A.2.2.2.2.1
  have self : (S z).testBit (tr_lc K z) = false := by
    cases e : (S z).testBit (tr_lc K z) with
    | false => rfl
    | true => exact absurd (re_anc_lt A hz kz e) (Nat.lt_irrefl z)
  -- above z nothing is added
  have in1 : ∀ {J : Int32 → Int32 → Prop} {x4 x3 : Int32}, J x3 (x4 + 1) → ∀ f a i, a + 1 < f → i + a < n → a ≠ z → (S a).testBit (tr_lc K z) = false → wY_captures_48 post J (nI z) x4 g_cellLimit g_callLimit g_closureLimit (nI n) g_holes g_reached b_kinds b_operands b_parents b_s b_p b_rec b_sets b_live b_done b_fn b_val b_entered b_bind f x3 (nI i) (nI a) := by
    intro J x4 x3 hJ f
    induction f with
    | zero => intro a i hf; omega
    | succ f ih =>
      intro a i hf hi ne hs
      refine br_f (nI_ge (by omega) (by omega)) (br_f (nI_pos (by omega)) (br_f (fun w => ne ((nI_eq (by omega) (by omega)).mp w)) (nm_r (nI_1 i) ⟨vp_in_nI (by omega) (by omega), ?_⟩)))
      rw [nI_clamp (by omega)]
      by_cases w : a = 0
      · subst w
        obtain ⟨f, rfl⟩ : ∃ f', f = f' + 1 := ⟨f - 1, by omega⟩
        refine nm_r (hp0 (by omega)) ?_
        by_cases y : n ≤ i + 1
        · exact br_t (nI_le y (by omega)) (nm_e hJ)
        · exact br_f (nI_ge (by omega) (by omega)) (br_t (by decide) (nm_e hJ))
      · have a0 : 0 < a := by omega
        have hP := (A.1 a a0 (by omega)).1
        refine nm_r (hpa a a0 (by omega)) (ih (P a) (i + 1) (by omega) (by omega) (fun e => ?_) ?_)
        · have := (re_anc A (a := a) (show a < n by omega) kz).mpr ⟨a0, Or.inl e⟩
          rw [hs] at this; cases this
        · cases e : (S (P a)).testBit (tr_lc K z) with
          | false => rfl
          | true =>
            have := (re_anc A (a := a) (show a < n by omega) kz).mpr ⟨a0, Or.inr e⟩
            rw [hs] at this; cases this
  -- from below z
  have in2 : ∀ {J : Int32 → Int32 → Prop} (v M : Nat), v < n → (S v).testBit (tr_lc K z) = true → J (nI (if (ca_q K S t (tr_lc K z) v && (S z).testBit (B v)) = true then M ||| 2 ^ B v else M)) (nI v + 1) → ∀ f a i, a + 1 < f → i + a < n → a < n → (a = z ∨ (S a).testBit (tr_lc K z) = true) → wY_captures_48 post J (nI z) (nI v) g_cellLimit g_callLimit g_closureLimit (nI n) g_holes g_reached b_kinds b_operands b_parents b_s b_p b_rec b_sets b_live b_done b_fn b_val b_entered b_bind f (nI M) (nI i) (nI a) := by
    intro J v M hv sv hJ f
    induction f with
    | zero => intro a i hf; omega
    | succ f ih =>
      intro a i hf hi ha hat
      have vv : vp_in (nI v) 48 := vp_in_nI (by omega) (by omega)
      have hcv := nI_clamp (n := v) (by omega)
      refine br_f (nI_ge (by omega) (by omega)) (br_f (nI_pos (by omega)) ?_)
      by_cases e : a = z
      · -- here it is
        subst e
        -- the rest of the way up
        have rest : ∀ x3 : Int32, J x3 (nI v + 1) → (∀ y : Int32, y = b_parents a → wY_captures_48 post J (nI a) (nI v) g_cellLimit g_callLimit g_closureLimit (nI n) g_holes g_reached b_kinds b_operands b_parents b_s b_p b_rec b_sets b_live b_done b_fn b_val b_entered b_bind f x3 (nI (i + 1)) y) := fun x3 hJ3 => by
          by_cases w : a = 0
          · subst w
            obtain ⟨f, rfl⟩ : ∃ f', f = f' + 1 := ⟨f - 1, by omega⟩
            refine nm_r (hp0 (by omega)) ?_
            by_cases y : n ≤ i + 1
            · exact br_t (nI_le y (by omega)) (nm_e hJ3)
            · exact br_f (nI_ge (by omega) (by omega)) (br_t (by decide) (nm_e hJ3))
          · have a0 : 0 < a := by omega
            have hP := (A.1 a a0 (by omega)).1
            refine nm_r (hpa a a0 (by omega)) (in1 hJ3 f (P a) (i + 1) (by omega) (by omega) (by omega) ?_)
            cases e : (S (P a)).testBit (tr_lc K a) with
            | false => rfl
            | true =>
              have := (re_anc A (a := a) ha kz).mpr ⟨a0, Or.inr e⟩
              rw [self] at this; cases this
        have va : vp_in (nI a) 48 := vp_in_nI (by omega) (by omega)
        have hca := nI_clamp (n := a) (by omega)
        refine br_t rfl ⟨vv, ?_⟩
        rw [hcv, (hk v hv).1, hca]
        have k6 := (hk v hv).2
        by_cases k : K v = 0
        · refine br_t (by rw [k]; rfl) ⟨vv, ?_⟩
          rw [(X.1 v hv).1]
          have h1 := h01 v
          by_cases w : t.1 v = 1
          · have eq : ca_q K S t (tr_lc K a) v = true := by unfold ca_q; rw [sv, decide_eq_true k, decide_eq_true w]; rfl
            rw [eq, Bool.true_and] at hJ
            refine br_f (nI_ne0 (by omega) (by omega)) (yy_binder A hk hpa hv k (hod v hv k) (fun b b1 b2 b3 b4 => ?_))
            have cap := re_cap A hv kz b2 sv b4
            rw [b3] at cap
            have hB : B v < 16 := by rw [← b3]; have := tr_lc_lt (show b < n by omega) b2; omega
            by_cases y : b < a
            · rw [if_pos (cap.mp y)] at hJ
              refine br_f (nI_ge y (by omega)) (yy_look A hk hpa hod hv (fun e => absurd e (by decide)) (fun e => absurd e (by decide)) (fun e => absurd e (by decide)) (fun _ => ⟨fun _ => ?_, fun q => by omega, fun q => absurd k q⟩) (fun e => by rcases e with e | e <;> exact absurd e (by decide)))
              rw [bi_shl _ (by omega), bi_or]
              exact nm_e (nm_r (nI_1 i) ⟨va, rest _ hJ⟩)
            · have nb : ¬ (S a).testBit (B v) = true := fun q => y (cap.mpr q)
              rw [if_neg nb] at hJ
              exact br_t (nI_le (by omega) (by omega)) (nm_r (nI_1 i) ⟨va, rest _ hJ⟩)
          · have w0 : t.1 v = 0 := by omega
            have eq : ca_q K S t (tr_lc K a) v = false := by unfold ca_q; rw [decide_eq_false w, Bool.and_false, Bool.false_and]
            rw [eq, Bool.false_and, if_neg (by decide)] at hJ
            exact br_t (by rw [w0]; rfl) (nm_r (nI_1 i) ⟨va, rest _ hJ⟩)
        · have eq : ca_q K S t (tr_lc K a) v = false := by unfold ca_q; rw [decide_eq_false k, Bool.false_and, Bool.false_and]
          rw [eq, Bool.false_and, if_neg (by decide)] at hJ
          exact br_f (fun w => k ((nI_eq (b := 0) (by omega) (by decide)).mp w)) (nm_r (nI_1 i) ⟨va, rest _ hJ⟩)
      · have hs : (S a).testBit (tr_lc K z) = true := hat.resolve_left e
        obtain ⟨a0, nx⟩ := (re_anc A (a := a) ha kz).mp hs
        have hP := (A.1 a a0 ha).1
        refine br_f (fun w => e ((nI_eq (by omega) (by omega)).mp w)) (nm_r (nI_1 i) ⟨vp_in_nI (by omega) (by omega), ?_⟩)
        rw [nI_clamp (by omega)]
        exact nm_r (hpa a a0 ha) (ih (P a) (i + 1) (by omega) (by omega) (by omega) nx)
  have go : ∀ d v f, v + d = n → d < f → z < v → wY_captures_27 post (nI z) g_cellLimit g_callLimit g_closureLimit (nI n) g_holes g_reached b_kinds b_operands b_parents b_s b_p b_rec b_sets b_live b_done b_fn b_val b_entered b_bind f (nI (ca_m (fun i => ca_q K S t (tr_lc K z) i && (S z).testBit (B i)) B v)) (nI v) := by
    intro d
    induction d with
    | zero =>
      intro v f hv hf hzv
      obtain ⟨f, rfl⟩ : ∃ f', f = f' + 1 := ⟨f - 1, by omega⟩
      have e : v = n := by omega
      subst e
      exact br_t (nI_le (Nat.le_refl _) (by omega)) hpost
    | succ d ih =>
      intro v f hv hf hzv
      obtain ⟨f, rfl⟩ : ∃ f', f = f' + 1 := ⟨f - 1, by omega⟩
      have nx := ih (v + 1) f (by omega) (by omega) (by omega)
      have nx' : wY_captures_27 post (nI z) g_cellLimit g_callLimit g_closureLimit (nI n) g_holes g_reached b_kinds b_operands b_parents b_s b_p b_rec b_sets b_live b_done b_fn b_val b_entered b_bind f (nI (if (ca_q K S t (tr_lc K z) v && (S z).testBit (B v)) = true then ca_m (fun i => ca_q K S t (tr_lc K z) i && (S z).testBit (B i)) B v ||| 2 ^ B v else ca_m (fun i => ca_q K S t (tr_lc K z) i && (S z).testBit (B i)) B v)) (nI (v + 1)) := nx
      have v0 : 0 < v := by omega
      have hP := (A.1 v v0 (by omega)).1
      refine br_f (nI_ge (by omega) (by omega)) ⟨vp_in_nI (by omega) (by omega), ?_⟩
      rw [nI_clamp (by omega)]
      refine nm_r (hpa v v0 (by omega)) ⟨n + 1, ?_⟩
      rw [← nI_1 v] at nx'
      cases sv : (S v).testBit (tr_lc K z) with
      | true =>
        have at' := ((re_anc A (a := v) (show v < n by omega) kz).mp sv).2
        exact in2 v _ (by omega) sv nx' (n + 1) (P v) 0 (by omega) (by omega) (by omega) at'
      | false =>
        have eq : ca_q K S t (tr_lc K z) v = false := by unfold ca_q; rw [sv, Bool.and_false]
        rw [eq, Bool.false_and, if_neg (by decide)] at nx'
        refine in1 nx' (n + 1) (P v) 0 (by omega) (by omega) (fun e => ?_) ?_
        · have := (re_anc A (a := v) (show v < n by omega) kz).mpr ⟨v0, Or.inl e⟩
          rw [sv] at this; cases this
        · cases e : (S (P v)).testBit (tr_lc K z) with
          | false => rfl
          | true =>
            have := (re_anc A (a := v) (show v < n by omega) kz).mpr ⟨v0, Or.inr e⟩
            rw [sv] at this; cases this
  refine ⟨n + 1, ?_⟩
  have e0 := ca_0 (q := fun i => ca_q K S t (tr_lc K z) i && (S z).testBit (B i)) (B := B) (z + 1) (fun j hj => by
    have : (S j).testBit (tr_lc K z) = false := by
      cases e : (S j).testBit (tr_lc K z) with
      | false => rfl
      | true => have := re_anc_lt A (show j < n by omega) kz e; omega
    show (ca_q K S t (tr_lc K z) j && (S z).testBit (B j)) = false
    unfold ca_q
    rw [this, Bool.and_false, Bool.false_and])
  have g := go (n - (z + 1)) (z + 1) (n + 1) (by omega) (by omega) (by omega)
  rw [e0] at g
  exact g
end
theorem i_vc_captures {k : Nat} {u : SX} {v : SY} (I : i_Rel k u v) (hk : k + 3 ≤ 1539) (v1 : Int32) : wpX_captures (fun r => wpY_captures (fun r' => r' = r ∧ i_Rel (k + 3) u v) v v1) u v1 := by
  refine i_el (G := fun u v => wpX_captures (fun r => wpY_captures (fun r' => r' = r ∧ i_Rel (k + 3) u v) v v1) u v1) I ?_
  intro cs cl cm n h L st cn K P N Lv S O B oc nd tg bs en dn et bi f_grown f_runningEngine f_ending f_callCount f_closureCount f_frame f_waitingCount a_kinds a_operands a_parents a_places a_children a_levels a_nests a_scopes a_nodeLambdas a_lambdaNodes a_liveNodes a_nodeFlows a_paramFlows a_entries a_frameReturns a_closureLambdas a_records a_calledSets a_closureValues a_frameValues a_waiting b_s b_p b_live b_fn b_val hI I0
  obtain ⟨A, X, l1, l2, m1, m2, s, S1, S2⟩ := hI
  obtain ⟨hn, hh, hL⟩ := ez_48 A
  have hLn := A.2.2.2.2.1
  unfold wpX_captures
  refine xx_isSolvedLambda hL s (fun z => ?_) (fun j h1 hj e => ?_)
  · refine br_t rfl ?_
    unfold wpY_captures
    rcases z with z | ⟨z, y⟩
    · have q := (ez_st s).1.mpr z
      exact yy_lambdaNode hn (ez_kd A X) (fun m hm km e => br_t q ⟨rfl, I0⟩) (fun _ => br_t q ⟨rfl, I0⟩)
    · have q : ¬ nI st < 1 := fun w => by have := (ez_st s).1.mp w; omega
      refine yy_lambdaNode hn (ez_kd A X) (fun m hm km e => ?_) (fun _ => br_f q (br_f (by decide) ⟨rfl, I0⟩))
      subst e
      have := tr_lc_lt hm km
      rcases y with y | y
      · exact absurd y (nI_pos (by omega))
      · exact absurd y (nI_ge (by omega) (by omega))
  · refine br_f (by decide) ?_
    subst e
    obtain ⟨h0, a1, a2⟩ := S1 h1
    subst h0
    have R := so_sol_R (re_so_T A (re_bd_is (K := K) (n := n))) (re_full A).1
    obtain ⟨q1, q2, q3⟩ := tr_ln_of (K := K) (n := n) (l := j) (by omega)
    have e := X.2.2.2.2.2.2.2.2 _ q1 q2
    rw [q3] at e
    refine ⟨vp_in_nI (by omega) (by omega), ?_⟩
    rw [nI_clamp (by omega), e, nI_clamp (by omega)]
    refine ⟨vp_in_nI (by omega) (by omega), nm_r (X.2.2.2.2.2.2.1 _ q1).2.2 ?_⟩
    refine xx_capt A X hj R.1 a1 ?_
    unfold wpY_captures
    have q : ¬ nI st < 1 := fun w => by have := (ez_st s).1.mp w; omega
    refine yy_lambdaNode hn (ez_kd A X) (fun m hm km e => ?_) (fun w => ?_)
    · have lm := tr_lc_lt hm km
      have el : j = tr_lc K m := (nI_eq (by omega) (by omega)).mp e
      have em : tr_ln K n j = m := by rw [el]; exact tr_ln_is km n hm
      refine br_f q (br_t (nI_pos' (by omega)) (nm_r (nI_1 m) ?_))
      refine yy_capt A (ez_kd A X) X.2.2.2.1 X.2.2.1 X.2.1 hm km R.1 a2 ⟨?_, I0⟩
      rw [ca_and, em, el]
    · obtain ⟨m, p1, p2, p3⟩ := tr_lc_find (K := K) (l := j) n (by omega)
      exact absurd (by rw [p3]) (w m p1 p2)
end
section
/-! ===== the class: emission ===== -/
theorem xe_n : ∀ m, m < 48 → (nI m ^^^ (-1)) < 0 ∧ (nI m ^^^ (-1)) ^^^ (-1) = nI m := by decide +kernel
def xe_c (c : Sum Nat Nat) : Int32 := match c with
  | .inl m => nI m
  | .inr m => nI m ^^^ (-1)
theorem xe_inj {a b : Nat} (ha : a < 48) (hb : b < 48) (h : nI a ^^^ (-1) = nI b ^^^ (-1)) : a = b := by
  have h1 := (xe_n a ha).2
  rw [h, (xe_n b hb).2] at h1
  exact ((nI_eq (by omega) (by omega)).mp h1).symm
theorem rn_at (g : Nat → Nat) {j : Nat} (h : j < 2 ^ 31) : rn_F g (nI j).toNatClampNeg = nI (g j) := by
  rw [nI_clamp h]; rfl
section
variable {f_cellLimit f_callLimit f_closureLimit f_nodes f_holes f_lambdas f_stageReached f_grown f_codeLength f_runningEngine f_ending f_callCount f_closureCount f_frame f_waitingCount : Int32} {a_kinds a_operands a_parents a_places a_children a_levels a_nests a_scopes a_nodeLambdas a_lambdaNodes a_liveNodes a_nodeFlows a_paramFlows a_codeOps a_codeNodes a_codeTargets a_branchSpots a_entries a_frameReturns a_closureLambdas a_records a_calledSets : Nat → Int32} {a_closureValues a_frameValues a_waiting : Nat → Int64}
variable {cs n L : Nat} {K P N Lv S O B : Nat → Nat} {t : so_S} {oc nd tg bs : Nat → Nat} {z : Nat}
theorem xx_emit {post : SX → Prop} {op m : Nat} (hz : z < 113) (h : post (f_cellLimit, f_callLimit, f_closureLimit, f_nodes, f_holes, f_lambdas, f_stageReached, f_grown, (nI (z + 1)), f_runningEngine, f_ending, f_callCount, f_closureCount, f_frame, f_waitingCount, a_kinds, a_operands, a_parents, a_places, a_children, a_levels, a_nests, a_scopes, a_nodeLambdas, a_lambdaNodes, a_liveNodes, a_nodeFlows, a_paramFlows, (rn_F (tr_put oc z op)), (rn_F (tr_put nd z m)), a_codeTargets, a_branchSpots, a_entries, a_frameReturns, a_frameValues, a_closureLambdas, a_closureValues, a_waiting, a_records, a_calledSets)) : wpX_emit post (f_cellLimit, f_callLimit, f_closureLimit, f_nodes, f_holes, f_lambdas, f_stageReached, f_grown, (nI z), f_runningEngine, f_ending, f_callCount, f_closureCount, f_frame, f_waitingCount, a_kinds, a_operands, a_parents, a_places, a_children, a_levels, a_nests, a_scopes, a_nodeLambdas, a_lambdaNodes, a_liveNodes, a_nodeFlows, a_paramFlows, (rn_F oc), (rn_F nd), a_codeTargets, a_branchSpots, a_entries, a_frameReturns, a_frameValues, a_closureLambdas, a_closureValues, a_waiting, a_records, a_calledSets) (nI op) (nI m) := by
  have v : vp_in (nI z) 113 := vp_in_nI hz (by omega)
  have hc := nI_clamp (n := z) (by omega)
  refine ⟨v, nm_r (by rw [hc, rn_put]) ⟨v, nm_r (by rw [hc, rn_put]) (nm_r (nI_1 z) h)⟩⟩
theorem xx_before {post : Int32 → SX → Prop} {m : Nat} (A : re_A cs n 0 L K P N Lv S O B) (XT : re_X n K P N Lv S O B a_kinds a_operands a_parents a_places a_children a_levels a_nests a_scopes a_nodeLambdas a_lambdaNodes) (hm : m < n) (hz : z < 113)
    (h : K m ≤ 2 → post (nI m ^^^ (-1)) (f_cellLimit, f_callLimit, f_closureLimit, f_nodes, f_holes, f_lambdas, f_stageReached, f_grown, (nI (z + 1)), f_runningEngine, f_ending, f_callCount, f_closureCount, f_frame, f_waitingCount, a_kinds, a_operands, a_parents, a_places, a_children, a_levels, a_nests, a_scopes, a_nodeLambdas, a_lambdaNodes, a_liveNodes, a_nodeFlows, a_paramFlows, (rn_F (tr_put oc z (if K m = 0 then 1 else if K m = 1 then 0 else 2))), (rn_F (tr_put nd z m)), a_codeTargets, a_branchSpots, a_entries, a_frameReturns, a_frameValues, a_closureLambdas, a_closureValues, a_waiting, a_records, a_calledSets)) (h3 : 3 ≤ K m → post (nI (m + 1)) (f_cellLimit, f_callLimit, f_closureLimit, f_nodes, f_holes, f_lambdas, f_stageReached, f_grown, (nI z), f_runningEngine, f_ending, f_callCount, f_closureCount, f_frame, f_waitingCount, a_kinds, a_operands, a_parents, a_places, a_children, a_levels, a_nests, a_scopes, a_nodeLambdas, a_lambdaNodes, a_liveNodes, a_nodeFlows, a_paramFlows, (rn_F oc), (rn_F nd), a_codeTargets, a_branchSpots, a_entries, a_frameReturns, a_frameValues, a_closureLambdas, a_closureValues, a_waiting, a_records, a_calledSets)) :
    wpX_emitBefore post (f_cellLimit, f_callLimit, f_closureLimit, f_nodes, f_holes, f_lambdas, f_stageReached, f_grown, (nI z), f_runningEngine, f_ending, f_callCount, f_closureCount, f_frame, f_waitingCount, a_kinds, a_operands, a_parents, a_places, a_children, a_levels, a_nests, a_scopes, a_nodeLambdas, a_lambdaNodes, a_liveNodes, a_nodeFlows, a_paramFlows, (rn_F oc), (rn_F nd), a_codeTargets, a_branchSpots, a_entries, a_frameReturns, a_frameValues, a_closureLambdas, a_closureValues, a_waiting, a_records, a_calledSets) (nI m) := by
  have hn : n ≤ 48 := by have := A.2.2.1; have := A.2.2.2.1; omega
  have k6 := (A.2.2.2.2.2.2.2.2.2.1 m hm).1
  have hcm := nI_clamp (n := m) (by omega)
  refine ⟨vp_in_nI (by omega) (by omega), ?_⟩
  rw [hcm]
  refine nm_r (XT.1 m hm) (br_f (nI_pos (by omega)) ?_)
  by_cases k : 3 ≤ K m
  · obtain ⟨r1, r2, _⟩ := re_kid0 A XT hm (by omega)
    refine br_t (nI_lt (a := 2) (by omega) (by omega)) (xx_childAt (k := 0) (by omega) (by omega) ?_)
    rw [r2]
    exact h3 k
  · refine br_f (nI_nlt (a := 2) (by omega) (by decide)) ?_
    have hh := h (by omega)
    have hc : K m = 0 ∨ K m = 1 ∨ K m = 2 := by omega
    rcases hc with e | e | e
    · rw [e, if_pos rfl] at hh
      rw [e]
      exact br_t rfl (xx_emit (op := 1) hz hh)
    · rw [e, if_neg (by decide), if_pos rfl] at hh
      rw [e]
      exact br_f (by decide) (br_t rfl (xx_emit (op := 0) hz hh))
    · rw [e, if_neg (by decide), if_neg (by decide)] at hh
      rw [e]
      exact br_f (by decide) (br_f (by decide) (br_t rfl (xx_emit (op := 2) hz hh)))
/-- a call's instruction -/
theorem xx_emitCall {post : SX → Prop} {m : Nat} (A : re_A cs n 0 L K P N Lv S O B) (XT : re_X n K P N Lv S O B a_kinds a_operands a_parents a_places a_children a_levels a_nests a_scopes a_nodeLambdas a_lambdaNodes) (hm : m < n) (k3 : K m = 3) (hz : z < 113) (R : so_R n L t) (X : so_X n L t a_liveNodes a_nodeFlows a_paramFlows)
    (h : post (f_cellLimit, f_callLimit, f_closureLimit, f_nodes, f_holes, f_lambdas, f_stageReached, f_grown, (nI (z + 1)), f_runningEngine, f_ending, f_callCount, f_closureCount, f_frame, f_waitingCount, a_kinds, a_operands, a_parents, a_places, a_children, a_levels, a_nests, a_scopes, a_nodeLambdas, a_lambdaNodes, a_liveNodes, a_nodeFlows, a_paramFlows, (rn_F (tr_put oc z (cm_sk (tr_e P n) t m))), (rn_F (tr_put nd z m)), a_codeTargets, a_branchSpots, a_entries, a_frameReturns, a_frameValues, a_closureLambdas, a_closureValues, a_waiting, a_records, a_calledSets)) :
    wpX_emitCall post (f_cellLimit, f_callLimit, f_closureLimit, f_nodes, f_holes, f_lambdas, f_stageReached, f_grown, (nI z), f_runningEngine, f_ending, f_callCount, f_closureCount, f_frame, f_waitingCount, a_kinds, a_operands, a_parents, a_places, a_children, a_levels, a_nests, a_scopes, a_nodeLambdas, a_lambdaNodes, a_liveNodes, a_nodeFlows, a_paramFlows, (rn_F oc), (rn_F nd), a_codeTargets, a_branchSpots, a_entries, a_frameReturns, a_frameValues, a_closureLambdas, a_closureValues, a_waiting, a_records, a_calledSets) (nI m) := by
  unfold wpX_emitCall
  refine xx_siteOf A XT hm R X ?_
  unfold cm_sk at h
  unfold si_c
  rw [if_pos k3]
  by_cases z0 : t.1 m = 0
  · rw [if_pos z0]
    rw [if_pos (Or.inl z0)] at h
    exact br_f (by decide) (br_f (by decide) (xx_emit (op := 8) hz h))
  · rw [if_neg z0]
    by_cases z1 : t.2.1 (m + 1) % 65536 = 0 ∨ t.2.1 (tr_e P n (m + 1)) = 0
    · rw [if_pos z1]
      rw [if_pos (Or.inr z1)] at h
      exact br_f (by decide) (br_f (by decide) (xx_emit (op := 8) hz h))
    · rw [if_neg z1]
      rw [if_neg (by rintro (q | q); exact z0 q; exact z1 q)] at h
      by_cases z2 : t.2.1 (m + 1) &&& (t.2.1 (m + 1) - 1) = 0
      · rw [if_pos z2]
        rw [if_pos z2] at h
        exact br_t (by decide) (xx_emit (op := 6) hz h)
      · rw [if_neg z2]
        rw [if_neg z2] at h
        exact br_f (by decide) (br_t (by decide) (xx_emit (op := 7) hz h))
/-- behind a child of a node that is no IF0 -/
theorem xx_after {post : Int32 → SX → Prop} {m : Nat} (A : re_A cs n 0 L K P N Lv S O B) (XT : re_X n K P N Lv S O B a_kinds a_operands a_parents a_places a_children a_levels a_nests a_scopes a_nodeLambdas a_lambdaNodes) (hm : m < n) (k3 : 3 ≤ K m) (k6 : K m ≠ 6) (R : so_R n L t) (X : so_X n L t a_liveNodes a_nodeFlows a_paramFlows) :
    (post (nI (tr_e P n (m + 1))) (f_cellLimit, f_callLimit, f_closureLimit, f_nodes, f_holes, f_lambdas, f_stageReached, f_grown, (nI z), f_runningEngine, f_ending, f_callCount, f_closureCount, f_frame, f_waitingCount, a_kinds, a_operands, a_parents, a_places, a_children, a_levels, a_nests, a_scopes, a_nodeLambdas, a_lambdaNodes, a_liveNodes, a_nodeFlows, a_paramFlows, (rn_F oc), (rn_F nd), a_codeTargets, a_branchSpots, a_entries, a_frameReturns, a_frameValues, a_closureLambdas, a_closureValues, a_waiting, a_records, a_calledSets) → wpX_emitAfter post (f_cellLimit, f_callLimit, f_closureLimit, f_nodes, f_holes, f_lambdas, f_stageReached, f_grown, (nI z), f_runningEngine, f_ending, f_callCount, f_closureCount, f_frame, f_waitingCount, a_kinds, a_operands, a_parents, a_places, a_children, a_levels, a_nests, a_scopes, a_nodeLambdas, a_lambdaNodes, a_liveNodes, a_nodeFlows, a_paramFlows, (rn_F oc), (rn_F nd), a_codeTargets, a_branchSpots, a_entries, a_frameReturns, a_frameValues, a_closureLambdas, a_closureValues, a_waiting, a_records, a_calledSets) (nI (m + 1))) ∧
    (z < 113 → post (nI m ^^^ (-1)) (f_cellLimit, f_callLimit, f_closureLimit, f_nodes, f_holes, f_lambdas, f_stageReached, f_grown, (nI (z + 1)), f_runningEngine, f_ending, f_callCount, f_closureCount, f_frame, f_waitingCount, a_kinds, a_operands, a_parents, a_places, a_children, a_levels, a_nests, a_scopes, a_nodeLambdas, a_lambdaNodes, a_liveNodes, a_nodeFlows, a_paramFlows, (rn_F (tr_put oc z (if K m = 3 then cm_sk (tr_e P n) t m else 3))), (rn_F (tr_put nd z m)), a_codeTargets, a_branchSpots, a_entries, a_frameReturns, a_frameValues, a_closureLambdas, a_closureValues, a_waiting, a_records, a_calledSets) → wpX_emitAfter post (f_cellLimit, f_callLimit, f_closureLimit, f_nodes, f_holes, f_lambdas, f_stageReached, f_grown, (nI z), f_runningEngine, f_ending, f_callCount, f_closureCount, f_frame, f_waitingCount, a_kinds, a_operands, a_parents, a_places, a_children, a_levels, a_nests, a_scopes, a_nodeLambdas, a_lambdaNodes, a_liveNodes, a_nodeFlows, a_paramFlows, (rn_F oc), (rn_F nd), a_codeTargets, a_branchSpots, a_entries, a_frameReturns, a_frameValues, a_closureLambdas, a_closureValues, a_waiting, a_records, a_calledSets) (nI (tr_e P n (m + 1)))) := by
  have hn : n ≤ 48 := by have := A.2.2.1; have := A.2.2.2.1; omega
  have hk6 := (A.2.2.2.2.2.2.2.2.2.1 m hm).1
  obtain ⟨r1, r2, r3, r4⟩ := re_kid0 A XT hm (by omega)
  obtain ⟨s1, s2, s3, s4⟩ := re_kid1 A XT hm (by omega)
  have vm : vp_in (nI m) 48 := vp_in_nI (by omega) (by omega)
  have hcm := nI_clamp (n := m) (by omega)
  have n6 : ¬ nI (K m) = 6 := fun w => k6 ((nI_eq (b := 6) (by omega) (by decide)).mp w)
  refine ⟨fun hp => ?_, fun hz hp => ?_⟩
  · have hc1 := nI_clamp (n := m + 1) (by omega)
    have v1 : vp_in (nI (m + 1)) 48 := vp_in_nI (by omega) (by omega)
    refine ⟨v1, ?_⟩
    rw [hc1]
    refine nm_r r3 ⟨vm, ?_⟩
    rw [hcm, XT.1 m hm, r4]
    refine br_f n6 ⟨v1, br_t rfl (xx_childAt (k := 1) (by omega) (by omega) ?_)⟩
    rw [s2]
    exact hp
  · have hc1 := nI_clamp (n := tr_e P n (m + 1)) (by omega)
    have v1 : vp_in (nI (tr_e P n (m + 1))) 48 := vp_in_nI (by omega) (by omega)
    refine ⟨v1, ?_⟩
    rw [hc1]
    refine nm_r s3 ⟨vm, ?_⟩
    rw [hcm, XT.1 m hm, s4]
    refine br_f n6 ⟨v1, br_f (by decide) ⟨vm, ?_⟩⟩
    by_cases q : K m = 3
    · rw [if_pos q] at hp
      exact br_t (by rw [q]; rfl) (xx_emitCall A XT hm q hz R X hp)
    · rw [if_neg q] at hp
      exact br_f (fun w => q ((nI_eq (b := 3) (by omega) (by decide)).mp w)) (xx_emit (op := 3) hz hp)
/-- behind a child of an IF0 -/
theorem xx_after6 {post : Int32 → SX → Prop} {m : Nat} (A : re_A cs n 0 L K P N Lv S O B) (XT : re_X n K P N Lv S O B a_kinds a_operands a_parents a_places a_children a_levels a_nests a_scopes a_nodeLambdas a_lambdaNodes) (hm : m < n) (k6 : K m = 6) (R : so_R n L t) (X : so_X n L t a_liveNodes a_nodeFlows a_paramFlows) :
    (z < 113 → t.1 (tr_e P n (m + 1)) ≠ 1 → post (nI m ^^^ (-1)) (f_cellLimit, f_callLimit, f_closureLimit, f_nodes, f_holes, f_lambdas, f_stageReached, f_grown, (nI (z + 1)), f_runningEngine, f_ending, f_callCount, f_closureCount, f_frame, f_waitingCount, a_kinds, a_operands, a_parents, a_places, a_children, a_levels, a_nests, a_scopes, a_nodeLambdas, a_lambdaNodes, a_liveNodes, a_nodeFlows, a_paramFlows, (rn_F (tr_put oc z 8)), (rn_F (tr_put nd z m)), (rn_F tg), (rn_F bs), a_entries, a_frameReturns, a_frameValues, a_closureLambdas, a_closureValues, a_waiting, a_records, a_calledSets) → wpX_emitAfter post (f_cellLimit, f_callLimit, f_closureLimit, f_nodes, f_holes, f_lambdas, f_stageReached, f_grown, (nI z), f_runningEngine, f_ending, f_callCount, f_closureCount, f_frame, f_waitingCount, a_kinds, a_operands, a_parents, a_places, a_children, a_levels, a_nests, a_scopes, a_nodeLambdas, a_lambdaNodes, a_liveNodes, a_nodeFlows, a_paramFlows, (rn_F oc), (rn_F nd), (rn_F tg), (rn_F bs), a_entries, a_frameReturns, a_frameValues, a_closureLambdas, a_closureValues, a_waiting, a_records, a_calledSets) (nI (m + 1))) ∧
    (z < 113 → t.1 (tr_e P n (m + 1)) = 1 → post (nI (tr_e P n (m + 1))) (f_cellLimit, f_callLimit, f_closureLimit, f_nodes, f_holes, f_lambdas, f_stageReached, f_grown, (nI (z + 1)), f_runningEngine, f_ending, f_callCount, f_closureCount, f_frame, f_waitingCount, a_kinds, a_operands, a_parents, a_places, a_children, a_levels, a_nests, a_scopes, a_nodeLambdas, a_lambdaNodes, a_liveNodes, a_nodeFlows, a_paramFlows, (rn_F (tr_put oc z 4)), (rn_F (tr_put nd z m)), (rn_F tg), (rn_F (tr_put bs m z)), a_entries, a_frameReturns, a_frameValues, a_closureLambdas, a_closureValues, a_waiting, a_records, a_calledSets) → wpX_emitAfter post (f_cellLimit, f_callLimit, f_closureLimit, f_nodes, f_holes, f_lambdas, f_stageReached, f_grown, (nI z), f_runningEngine, f_ending, f_callCount, f_closureCount, f_frame, f_waitingCount, a_kinds, a_operands, a_parents, a_places, a_children, a_levels, a_nests, a_scopes, a_nodeLambdas, a_lambdaNodes, a_liveNodes, a_nodeFlows, a_paramFlows, (rn_F oc), (rn_F nd), (rn_F tg), (rn_F bs), a_entries, a_frameReturns, a_frameValues, a_closureLambdas, a_closureValues, a_waiting, a_records, a_calledSets) (nI (m + 1))) ∧
    (z < 113 → bs m < z → post (nI (tr_e P n (tr_e P n (m + 1)))) (f_cellLimit, f_callLimit, f_closureLimit, f_nodes, f_holes, f_lambdas, f_stageReached, f_grown, (nI (z + 1)), f_runningEngine, f_ending, f_callCount, f_closureCount, f_frame, f_waitingCount, a_kinds, a_operands, a_parents, a_places, a_children, a_levels, a_nests, a_scopes, a_nodeLambdas, a_lambdaNodes, a_liveNodes, a_nodeFlows, a_paramFlows, (rn_F (tr_put oc z 5)), (rn_F (tr_put nd z m)), (rn_F (tr_put tg (bs m) (z + 1))), (rn_F bs), a_entries, a_frameReturns, a_frameValues, a_closureLambdas, a_closureValues, a_waiting, a_records, a_calledSets) → wpX_emitAfter post (f_cellLimit, f_callLimit, f_closureLimit, f_nodes, f_holes, f_lambdas, f_stageReached, f_grown, (nI z), f_runningEngine, f_ending, f_callCount, f_closureCount, f_frame, f_waitingCount, a_kinds, a_operands, a_parents, a_places, a_children, a_levels, a_nests, a_scopes, a_nodeLambdas, a_lambdaNodes, a_liveNodes, a_nodeFlows, a_paramFlows, (rn_F oc), (rn_F nd), (rn_F tg), (rn_F bs), a_entries, a_frameReturns, a_frameValues, a_closureLambdas, a_closureValues, a_waiting, a_records, a_calledSets) (nI (tr_e P n (m + 1)))) ∧
    (∀ x, z ≤ 113 → bs m < 113 → tg (bs m) = x + 1 → x < 113 → post (nI m ^^^ (-1)) (f_cellLimit, f_callLimit, f_closureLimit, f_nodes, f_holes, f_lambdas, f_stageReached, f_grown, (nI z), f_runningEngine, f_ending, f_callCount, f_closureCount, f_frame, f_waitingCount, a_kinds, a_operands, a_parents, a_places, a_children, a_levels, a_nests, a_scopes, a_nodeLambdas, a_lambdaNodes, a_liveNodes, a_nodeFlows, a_paramFlows, (rn_F oc), (rn_F nd), (rn_F (tr_put tg x z)), (rn_F bs), a_entries, a_frameReturns, a_frameValues, a_closureLambdas, a_closureValues, a_waiting, a_records, a_calledSets) → wpX_emitAfter post (f_cellLimit, f_callLimit, f_closureLimit, f_nodes, f_holes, f_lambdas, f_stageReached, f_grown, (nI z), f_runningEngine, f_ending, f_callCount, f_closureCount, f_frame, f_waitingCount, a_kinds, a_operands, a_parents, a_places, a_children, a_levels, a_nests, a_scopes, a_nodeLambdas, a_lambdaNodes, a_liveNodes, a_nodeFlows, a_paramFlows, (rn_F oc), (rn_F nd), (rn_F tg), (rn_F bs), a_entries, a_frameReturns, a_frameValues, a_closureLambdas, a_closureValues, a_waiting, a_records, a_calledSets) (nI (tr_e P n (tr_e P n (m + 1))))) := by
  have hn : n ≤ 48 := by have := A.2.2.1; have := A.2.2.2.1; omega
  obtain ⟨r1, r2, r3, r4⟩ := re_kid0 A XT hm (by omega)
  obtain ⟨s1, s2, s3, s4⟩ := re_kid1 A XT hm (by omega)
  obtain ⟨w1, w2, w3, w4⟩ := re_kid2 A XT hm k6
  have vm : vp_in (nI m) 48 := vp_in_nI (by omega) (by omega)
  have hcm := nI_clamp (n := m) (by omega)
  have e6 : nI (K m) = 6 := by rw [k6]; rfl
  have vs : vp_in (nI (tr_e P n (m + 1))) 48 := vp_in_nI (by omega) (by omega)
  have hcs := nI_clamp (n := tr_e P n (m + 1)) (by omega)
  have v1 : vp_in (nI (m + 1)) 48 := vp_in_nI (by omega) (by omega)
  have hc1 := nI_clamp (n := m + 1) (by omega)
  have v2 : vp_in (nI (tr_e P n (tr_e P n (m + 1)))) 48 := vp_in_nI (by omega) (by omega)
  have hc2 := nI_clamp (n := tr_e P n (tr_e P n (m + 1))) (by omega)
  refine ⟨fun hz q hp => ?_, fun hz q hp => ?_, fun hz hb hp => ?_, fun x hz hb ht hx hp => ?_⟩
  · refine ⟨v1, ?_⟩
    rw [hc1]
    refine nm_r r3 ⟨vm, ?_⟩
    rw [hcm, XT.1 m hm, r4]
    refine br_t e6 ⟨v1, br_t rfl (xx_childAt (k := 1) (by omega) (by omega) ?_)⟩
    rw [s2]
    refine ⟨vs, ?_⟩
    rw [hcs, (X.1 _ s1).1]
    have h1 := R.1 (tr_e P n (m + 1))
    have h0 : t.1 (tr_e P n (m + 1)) = 0 := by omega
    rw [h0]
    exact br_t rfl (xx_emit (op := 8) hz hp)
  · refine ⟨v1, ?_⟩
    rw [hc1]
    refine nm_r r3 ⟨vm, ?_⟩
    rw [hcm, XT.1 m hm, r4]
    refine br_t e6 ⟨v1, br_t rfl (xx_childAt (k := 1) (by omega) (by omega) ?_)⟩
    rw [s2]
    refine ⟨vs, ?_⟩
    rw [hcs, (X.1 _ s1).1, q]
    refine br_f (by decide) ⟨vm, nm_r (e' := rn_F (tr_put bs m z)) (by rw [hcm, rn_put]) ?_⟩
    exact xx_emit (op := 4) hz hp
  · refine ⟨vs, ?_⟩
    rw [hcs]
    refine nm_r s3 ⟨vm, ?_⟩
    rw [hcm, XT.1 m hm, s4]
    refine br_t e6 ⟨vs, br_f (by decide) ⟨vm, ?_⟩⟩
    refine nm_r (show rn_F bs (nI m).toNatClampNeg = nI (bs m) from rn_at bs (by omega)) (br_t rfl (xx_emit (op := 5) hz ⟨vp_in_nI (by omega) (by omega), nm_r (e' := rn_F (tr_put tg (bs m) (z + 1))) ?_ (xx_childAt (k := 2) (by omega) (by omega) ?_)⟩))
    · rw [nI_clamp (by omega), rn_put]
    · rw [w2]
      exact hp
  · refine ⟨v2, ?_⟩
    rw [hc2]
    refine nm_r w3 ⟨vm, ?_⟩
    rw [hcm, XT.1 m hm, w4]
    refine br_t e6 ⟨v2, br_f (by decide) ⟨vm, ?_⟩⟩
    refine nm_r (show rn_F bs (nI m).toNatClampNeg = nI (bs m) from rn_at bs (by omega)) (br_f (by decide) ⟨vp_in_nI hb (by omega), ?_⟩)
    have e1 : rn_F tg (nI (bs m)).toNatClampNeg - 1 = nI x := by
      rw [rn_at tg (by omega), ht]
      exact nI_pred x
    rw [e1]
    exact ⟨vp_in_nI hx (by omega), nm_r (by rw [nI_clamp (by omega), rn_put]) hp⟩
end
end
section
/-! ===== the class: a piece ===== -/
section
variable {f_cellLimit f_callLimit f_closureLimit f_nodes f_holes f_lambdas f_stageReached f_grown f_codeLength f_runningEngine f_ending f_callCount f_closureCount f_frame f_waitingCount : Int32} {a_kinds a_operands a_parents a_places a_children a_levels a_nests a_scopes a_nodeLambdas a_lambdaNodes a_liveNodes a_nodeFlows a_paramFlows a_codeOps a_codeNodes a_codeTargets a_branchSpots a_entries a_frameReturns a_closureLambdas a_records a_calledSets : Nat → Int32} {a_closureValues a_frameValues a_waiting : Nat → Int64}
variable {cs n L : Nat} {K P N Lv S O B : Nat → Nat} {t : so_S}
theorem xx_before3 {post : Int32 → SX → Prop} {m : Nat} (A : re_A cs n 0 L K P N Lv S O B) (XT : re_X n K P N Lv S O B a_kinds a_operands a_parents a_places a_children a_levels a_nests a_scopes a_nodeLambdas a_lambdaNodes) (hm : m < n) (k : 3 ≤ K m) (h3 : post (nI (m + 1)) (f_cellLimit, f_callLimit, f_closureLimit, f_nodes, f_holes, f_lambdas, f_stageReached, f_grown, f_codeLength, f_runningEngine, f_ending, f_callCount, f_closureCount, f_frame, f_waitingCount, a_kinds, a_operands, a_parents, a_places, a_children, a_levels, a_nests, a_scopes, a_nodeLambdas, a_lambdaNodes, a_liveNodes, a_nodeFlows, a_paramFlows, a_codeOps, a_codeNodes, a_codeTargets, a_branchSpots, a_entries, a_frameReturns, a_frameValues, a_closureLambdas, a_closureValues, a_waiting, a_records, a_calledSets)) : wpX_emitBefore post (f_cellLimit, f_callLimit, f_closureLimit, f_nodes, f_holes, f_lambdas, f_stageReached, f_grown, f_codeLength, f_runningEngine, f_ending, f_callCount, f_closureCount, f_frame, f_waitingCount, a_kinds, a_operands, a_parents, a_places, a_children, a_levels, a_nests, a_scopes, a_nodeLambdas, a_lambdaNodes, a_liveNodes, a_nodeFlows, a_paramFlows, a_codeOps, a_codeNodes, a_codeTargets, a_branchSpots, a_entries, a_frameReturns, a_frameValues, a_closureLambdas, a_closureValues, a_waiting, a_records, a_calledSets) (nI m) := by
  have hn : n ≤ 48 := by have := A.2.2.1; have := A.2.2.2.1; omega
  have k6 := (A.2.2.2.2.2.2.2.2.2.1 m hm).1
  obtain ⟨r1, r2, _⟩ := re_kid0 A XT hm (by omega)
  refine ⟨vp_in_nI (by omega) (by omega), ?_⟩
  rw [nI_clamp (by omega)]
  refine nm_r (XT.1 m hm) (br_f (nI_pos (by omega)) (br_t (nI_lt (a := 2) (by omega) (by omega)) (xx_childAt (k := 0) (by omega) (by omega) ?_)))
  rw [r2]
  exact h3
/-- the loop of emitPiece keeps the rules of emission -/
theorem xe_R {post : SX → Prop} {st : Nat} (A : re_A cs n 0 L K P N Lv S O B) (XT : re_X n K P N Lv S O B a_kinds a_operands a_parents a_places a_children a_levels a_nests a_scopes a_nodeLambdas a_lambdaNodes) (hst : st < n) (R : so_R n L t) (X : so_X n L t a_liveNodes a_nodeFlows a_paramFlows) :
    em_R K (tr_e P n) t.1 (cm_sk (tr_e P n) t) st n (fun b c a => ∀ s f, s + b < 1000000 → b < f → wX_emitPiece_4 post (nI st) f (xe_c c) (nI s) f_cellLimit f_callLimit f_closureLimit f_nodes f_holes f_lambdas f_stageReached f_grown (nI a.1) f_runningEngine f_ending f_callCount f_closureCount f_frame f_waitingCount a_kinds a_operands a_parents a_places a_children a_levels a_nests a_scopes a_nodeLambdas a_lambdaNodes a_liveNodes a_nodeFlows a_paramFlows (rn_F a.2.1) (rn_F a.2.2.1) (rn_F a.2.2.2.1) (rn_F a.2.2.2.2) a_entries a_frameReturns a_frameValues a_closureLambdas a_closureValues a_waiting a_records a_calledSets) := by
  have hn : n ≤ 48 := by have := A.2.2.1; have := A.2.2.2.1; omega
  obtain ⟨_, F⟩ := re_full A
  have lim : ∀ {s : Nat}, s < 1000000 → ¬ (1000000 : Int32) ≤ nI s := fun h => nI_ge (b := 1000000) h (by decide)
  have ne0 : ∀ {m : Nat}, m < n → ¬ nI m = nI st ^^^ (-1) := fun {m} hm e => by
    have h1 := (xe_n st (by omega)).1
    rw [← e] at h1
    exact nI_pos (by omega) h1
  have ne1 : ∀ {m : Nat}, m < n → st < m → ¬ nI m ^^^ (-1) = nI st ^^^ (-1) := fun {m} hm hs e => by
    have := xe_inj (by omega) (by omega) e
    omega
  have ng : ∀ {m : Nat}, m < n → (nI m ^^^ (-1)) < 0 := fun {m} hm => (xe_n m (by omega)).1
  have bk : ∀ {m : Nat}, m < n → (nI m ^^^ (-1)) ^^^ (-1) = nI m := fun {m} hm => (xe_n m (by omega)).2
  refine ⟨?_, ?_, ?_, ?_, ?_, ?_, ?_, ?_, ?_, ?_, ?_⟩
  · intro b d c a H s f h1 h2
    exact H s f (by omega) (by omega)
  · intro b m z oc nd tg bs hs hm k hz H s f h1 h2
    obtain ⟨f, rfl⟩ : ∃ f', f = f' + 1 := ⟨f - 1, by omega⟩
    refine br_f (lim (by omega)) (br_f (ne0 hm) (br_f (nI_pos (by omega)) (xx_before A XT hm hz (fun _ => nm_r (nI_1 s) ?_) (fun w => by omega))))
    rw [if_pos k]
    exact H (s + 1) f (by omega) (by omega)
  · intro b m z oc nd tg bs hs hm k hz H s f h1 h2
    obtain ⟨f, rfl⟩ : ∃ f', f = f' + 1 := ⟨f - 1, by omega⟩
    refine br_f (lim (by omega)) (br_f (ne0 hm) (br_f (nI_pos (by omega)) (xx_before A XT hm hz (fun _ => nm_r (nI_1 s) ?_) (fun w => by omega))))
    rw [if_neg (by omega), if_pos k]
    exact H (s + 1) f (by omega) (by omega)
  · intro b m z oc nd tg bs hs hm k hz H s f h1 h2
    obtain ⟨f, rfl⟩ : ∃ f', f = f' + 1 := ⟨f - 1, by omega⟩
    refine br_f (lim (by omega)) (br_f (ne0 hm) (br_f (nI_pos (by omega)) (xx_before A XT hm hz (fun _ => nm_r (nI_1 s) ?_) (fun w => by omega))))
    rw [if_neg (by omega), if_neg (by omega)]
    exact H (s + 1) f (by omega) (by omega)
  · intro b m a hs hm k H s f h1 h2
    obtain ⟨f, rfl⟩ : ∃ f', f = f' + 1 := ⟨f - 1, by omega⟩
    obtain ⟨z, oc, nd, tg, bs⟩ := a
    obtain ⟨r1, r2, r3, r4⟩ := re_kid0 A XT hm (by omega)
    have k6 := (A.2.2.2.2.2.2.2.2.2.1 m hm).1
    exact br_f (lim (by omega)) (br_f (ne0 hm) (br_f (nI_pos (by omega)) (xx_before3 A XT hm k (nm_r (nI_1 s) (H (s + 1) f (by omega) (by omega))))))
  · intro b m a hs hm k k6 H s f h1 h2
    obtain ⟨f, rfl⟩ : ∃ f', f = f' + 1 := ⟨f - 1, by omega⟩
    obtain ⟨z, oc, nd, tg, bs⟩ := a
    obtain ⟨r1, r2⟩ := tr_par1 A.1 F hm (by omega)
    refine br_f (lim (by omega)) (br_f (ne1 r1 (by omega)) (br_t (ng r1) ?_))
    have e : (xe_c (Sum.inr (m + 1)) ^^^ (-1)) = nI (m + 1) := bk r1
    rw [e]
    exact (xx_after A XT hm k k6 R X).1 (nm_r (nI_1 s) (H (s + 1) f (by omega) (by omega)))
  · intro b m z oc nd tg bs hs hm k k6 hz H s f h1 h2
    obtain ⟨f, rfl⟩ : ∃ f', f = f' + 1 := ⟨f - 1, by omega⟩
    obtain ⟨s0, s1, s2⟩ := tr_par2 A.1 F hm k
    refine br_f (lim (by omega)) (br_f (ne1 s1 (by omega)) (br_t (ng s1) ?_))
    have e : (xe_c (Sum.inr (tr_e P n (m + 1))) ^^^ (-1)) = nI (tr_e P n (m + 1)) := bk s1
    rw [e]
    exact (xx_after A XT hm k k6 R X).2 hz (nm_r (nI_1 s) (H (s + 1) f (by omega) (by omega)))
  · intro b m z oc nd tg bs hs hm k6 q hz H s f h1 h2
    obtain ⟨f, rfl⟩ : ∃ f', f = f' + 1 := ⟨f - 1, by omega⟩
    obtain ⟨r1, r2⟩ := tr_par1 A.1 F hm (by omega)
    refine br_f (lim (by omega)) (br_f (ne1 r1 (by omega)) (br_t (ng r1) ?_))
    have e : (xe_c (Sum.inr (m + 1)) ^^^ (-1)) = nI (m + 1) := bk r1
    rw [e]
    exact (xx_after6 A XT hm k6 R X).1 hz q (nm_r (nI_1 s) (H (s + 1) f (by omega) (by omega)))
  · intro b m z oc nd tg bs hs hm k6 q hz H s f h1 h2
    obtain ⟨f, rfl⟩ : ∃ f', f = f' + 1 := ⟨f - 1, by omega⟩
    obtain ⟨r1, r2⟩ := tr_par1 A.1 F hm (by omega)
    refine br_f (lim (by omega)) (br_f (ne1 r1 (by omega)) (br_t (ng r1) ?_))
    have e : (xe_c (Sum.inr (m + 1)) ^^^ (-1)) = nI (m + 1) := bk r1
    rw [e]
    exact (xx_after6 A XT hm k6 R X).2.1 hz q (nm_r (nI_1 s) (H (s + 1) f (by omega) (by omega)))
  · intro b m z y oc nd tg bs hs hm k6 hz hb hy H s f h1 h2
    obtain ⟨f, rfl⟩ : ∃ f', f = f' + 1 := ⟨f - 1, by omega⟩
    obtain ⟨s0, s1, s2⟩ := tr_par2 A.1 F hm (by omega)
    subst hb
    refine br_f (lim (by omega)) (br_f (ne1 s1 (by omega)) (br_t (ng s1) ?_))
    have e : (xe_c (Sum.inr (tr_e P n (m + 1))) ^^^ (-1)) = nI (tr_e P n (m + 1)) := bk s1
    rw [e]
    exact (xx_after6 A XT hm k6 R X).2.2.1 hz hy (nm_r (nI_1 s) (H (s + 1) f (by omega) (by omega)))
  · intro b m z y x oc nd tg bs hs hm k6 hb hy ht hx hz H s f h1 h2
    obtain ⟨f, rfl⟩ : ∃ f', f = f' + 1 := ⟨f - 1, by omega⟩
    obtain ⟨w0, w1, w2⟩ := tr_par3 A.1 F hm k6
    subst hb
    refine br_f (lim (by omega)) (br_f (ne1 w1 (by omega)) (br_t (ng w1) ?_))
    have e : (xe_c (Sum.inr (tr_e P n (tr_e P n (m + 1)))) ^^^ (-1)) = nI (tr_e P n (tr_e P n (m + 1))) := bk w1
    rw [e]
    exact (xx_after6 A XT hm k6 R X).2.2.2 x hz hy ht hx (nm_r (nI_1 s) (H (s + 1) f (by omega) (by omega)))
/-- a piece: its code and its return -/
theorem xx_piece {post : SX → Prop} {st z : Nat} {oc nd tg bs : Nat → Nat} (A : re_A cs n 0 L K P N Lv S O B) (XT : re_X n K P N Lv S O B a_kinds a_operands a_parents a_places a_children a_levels a_nests a_scopes a_nodeLambdas a_lambdaNodes) (hst : st < n) (R : so_R n L t) (X : so_X n L t a_liveNodes a_nodeFlows a_paramFlows) {ky : Nat → Nat} (Y : em_ky K (tr_e P n) ky n) (hz : z + 2 * em_kc ky (tr_e P n) st < 113)
    (h : ∀ d x oc' nd' tg' bs', la_c K (tr_e P n) t.1 (cm_sk (tr_e P n) t) oc' nd' tg' d st z x → x ≤ z + 2 * em_kc ky (tr_e P n) st → em_ag z oc nd tg oc' nd' tg' → post (f_cellLimit, f_callLimit, f_closureLimit, f_nodes, f_holes, f_lambdas, f_stageReached, f_grown, (nI (x + 1)), f_runningEngine, f_ending, f_callCount, f_closureCount, f_frame, f_waitingCount, a_kinds, a_operands, a_parents, a_places, a_children, a_levels, a_nests, a_scopes, a_nodeLambdas, a_lambdaNodes, a_liveNodes, a_nodeFlows, a_paramFlows, (rn_F (tr_put oc' x 9)), (rn_F (tr_put nd' x st)), (rn_F tg'), (rn_F bs'), a_entries, a_frameReturns, a_frameValues, a_closureLambdas, a_closureValues, a_waiting, a_records, a_calledSets)) :
    wpX_emitPiece post (f_cellLimit, f_callLimit, f_closureLimit, f_nodes, f_holes, f_lambdas, f_stageReached, f_grown, (nI z), f_runningEngine, f_ending, f_callCount, f_closureCount, f_frame, f_waitingCount, a_kinds, a_operands, a_parents, a_places, a_children, a_levels, a_nests, a_scopes, a_nodeLambdas, a_lambdaNodes, a_liveNodes, a_nodeFlows, a_paramFlows, (rn_F oc), (rn_F nd), (rn_F tg), (rn_F bs), a_entries, a_frameReturns, a_frameValues, a_closureLambdas, a_closureValues, a_waiting, a_records, a_calledSets) (nI st) := by
  have hn : n ≤ 48 := by have := A.2.2.1; have := A.2.2.2.1; omega
  obtain ⟨_, F⟩ := re_full A
  have T := tr_T_of A.1 F
  have D := A.2.2.2.2.2.2.2.2.2.1
  have Ru := xe_R (post := post) (f_cellLimit := f_cellLimit) (f_callLimit := f_callLimit) (f_closureLimit := f_closureLimit) (f_nodes := f_nodes) (f_holes := f_holes) (f_lambdas := f_lambdas) (f_stageReached := f_stageReached) (f_grown := f_grown) (f_runningEngine := f_runningEngine) (f_ending := f_ending) (f_callCount := f_callCount) (f_closureCount := f_closureCount) (f_frame := f_frame) (f_waitingCount := f_waitingCount) (a_entries := a_entries) (a_frameReturns := a_frameReturns) (a_frameValues := a_frameValues) (a_closureLambdas := a_closureLambdas) (a_closureValues := a_closureValues) (a_waiting := a_waiting) (a_records := a_records) (a_calledSets := a_calledSets) A XT hst R X
  have run := em_run T hn (fun m hm => (D m hm).1) (em_K_of T Y) Ru (tr_e P n st - st) st (Nat.le_refl _) hst (Nat.le_refl _) 1 z oc nd tg bs (by omega) (fun x oc' nd' tg' bs' l u g _ => fun s f h1 h2 => by
    obtain ⟨f, rfl⟩ : ∃ f', f = f' + 1 := ⟨f - 1, by omega⟩
    refine br_f (nI_ge (b := 1000000) (by omega) (by decide)) (br_t rfl ?_)
    unfold wX_emitPiece_44
    exact xx_emit (op := 9) (by omega) (h _ x oc' nd' tg' bs' l u g))
  have he := (T st hst).2.1
  exact ⟨1000, run 0 1000 (by omega) (by omega)⟩
end
end
section
/-! ===== the class: compile ===== -/
/-- how many lambdas are kept -/
def fo_n (K e bd : Nat → Nat) (t : so_S) (n : Nat) : Nat → Nat
  | 0 => 0
  | l + 1 => if fo_c K e bd t n l = 0 then fo_n K e bd t n l else fo_n K e bd t n l + 1
section
variable {f_cellLimit f_callLimit f_closureLimit f_nodes f_holes f_lambdas f_stageReached f_grown f_codeLength f_runningEngine f_ending f_callCount f_closureCount f_frame f_waitingCount : Int32} {a_kinds a_operands a_parents a_places a_children a_levels a_nests a_scopes a_nodeLambdas a_lambdaNodes a_liveNodes a_nodeFlows a_paramFlows a_codeOps a_codeNodes a_codeTargets a_branchSpots a_entries a_frameReturns a_closureLambdas a_records a_calledSets : Nat → Int32} {a_closureValues a_frameValues a_waiting : Nat → Int64}
variable {cs n L : Nat} {K P N Lv S O B : Nat → Nat} {t : so_S}
theorem xx_kept {post : Int32 → Prop} (A : re_A cs n 0 L K P N Lv S O B) (XT : re_X n K P N Lv S O B a_kinds a_operands a_parents a_places a_children a_levels a_nests a_scopes a_nodeLambdas a_lambdaNodes) (R : so_R n L t) (X : so_X n L t a_liveNodes a_nodeFlows a_paramFlows) (h : post (nI (fo_n K (tr_e P n) (re_bd K n) t n L))) : wpX_countKeptLambdas post (f_cellLimit, f_callLimit, f_closureLimit, (nI n), f_holes, (nI L), f_stageReached, f_grown, f_codeLength, f_runningEngine, f_ending, f_callCount, f_closureCount, f_frame, f_waitingCount, a_kinds, a_operands, a_parents, a_places, a_children, a_levels, a_nests, a_scopes, a_nodeLambdas, a_lambdaNodes, a_liveNodes, a_nodeFlows, a_paramFlows, a_codeOps, a_codeNodes, a_codeTargets, a_branchSpots, a_entries, a_frameReturns, a_frameValues, a_closureLambdas, a_closureValues, a_waiting, a_records, a_calledSets) := by
  have hL : L ≤ 16 := A.2.2.2.2.2.1
  have go : ∀ d i f, i + d = L → d < f → wX_countKeptLambdas_4 post f_cellLimit f_callLimit f_closureLimit (nI n) f_holes (nI L) f_stageReached f_grown f_codeLength f_runningEngine f_ending f_callCount f_closureCount f_frame f_waitingCount a_kinds a_operands a_parents a_places a_children a_levels a_nests a_scopes a_nodeLambdas a_lambdaNodes a_liveNodes a_nodeFlows a_paramFlows a_codeOps a_codeNodes a_codeTargets a_branchSpots a_entries a_frameReturns a_frameValues a_closureLambdas a_closureValues a_waiting a_records a_calledSets f (nI (fo_n K (tr_e P n) (re_bd K n) t n i)) (nI i) := by
    intro d
    induction d with
    | zero =>
      intro i f hi hf
      obtain ⟨f, rfl⟩ : ∃ f', f = f' + 1 := ⟨f - 1, by omega⟩
      have e : i = L := by omega
      subst e
      exact br_t (nI_le (Nat.le_refl _) (by omega)) h
    | succ d ih =>
      intro i f hi hf
      obtain ⟨f, rfl⟩ : ∃ f', f = f' + 1 := ⟨f - 1, by omega⟩
      have nx := ih (i + 1) f (by omega) (by omega)
      have e : fo_n K (tr_e P n) (re_bd K n) t n (i + 1) = (if fo_c K (tr_e P n) (re_bd K n) t n i = 0 then fo_n K (tr_e P n) (re_bd K n) t n i else fo_n K (tr_e P n) (re_bd K n) t n i + 1) := rfl
      rw [e] at nx
      have c2 := fo_c2 K (tr_e P n) (re_bd K n) t n i
      refine br_f (nI_ge (by omega) (by omega)) (xx_formOf A XT (by omega) R X ?_)
      by_cases z : fo_c K (tr_e P n) (re_bd K n) t n i = 0
      · rw [if_pos z] at nx
        rw [z]
        exact br_t rfl (nm_r (nI_1 i) nx)
      · rw [if_neg z] at nx
        exact br_f (nI_ne0 (by omega) (by omega)) (nm_r (nI_1 _) (nm_r (nI_1 i) nx))
  exact ⟨L + 1, go L 0 (L + 1) (by omega) (by omega)⟩
/-- the links of known calls -/
theorem xx_link {post : SX → Prop} {z : Nat} {oc nd tg en : Nat → Nat} (A : re_A cs n 0 L K P N Lv S O B) (XT : re_X n K P N Lv S O B a_kinds a_operands a_parents a_places a_children a_levels a_nests a_scopes a_nodeLambdas a_lambdaNodes) (R : so_R n L t) (X : so_X n L t a_liveNodes a_nodeFlows a_paramFlows) (hz : z ≤ 113) (hc : ∀ c, c < z → nd c < n ∧ (oc c = 6 → K (nd c) = 3)) (ho : ∀ c, c < z → oc c ≤ 9) (hen : ∀ l, l < L → a_entries l = nI (en l))
    (h : ∀ tg', (∀ j, j < z → oc j ≠ 6 → tg' j = tg j) → (∀ x, x < z → oc x = 6 → ∀ l, l < L → t.2.1 (nd x + 1) = 2 ^ l → tg' x = en l) → post (f_cellLimit, f_callLimit, f_closureLimit, f_nodes, f_holes, (nI L), f_stageReached, f_grown, (nI z), f_runningEngine, f_ending, f_callCount, f_closureCount, f_frame, f_waitingCount, a_kinds, a_operands, a_parents, a_places, a_children, a_levels, a_nests, a_scopes, a_nodeLambdas, a_lambdaNodes, a_liveNodes, a_nodeFlows, a_paramFlows, (rn_F oc), (rn_F nd), (rn_F tg'), a_branchSpots, a_entries, a_frameReturns, a_frameValues, a_closureLambdas, a_closureValues, a_waiting, a_records, a_calledSets)) :
    wpX_linkKnownCalls post (f_cellLimit, f_callLimit, f_closureLimit, f_nodes, f_holes, (nI L), f_stageReached, f_grown, (nI z), f_runningEngine, f_ending, f_callCount, f_closureCount, f_frame, f_waitingCount, a_kinds, a_operands, a_parents, a_places, a_children, a_levels, a_nests, a_scopes, a_nodeLambdas, a_lambdaNodes, a_liveNodes, a_nodeFlows, a_paramFlows, (rn_F oc), (rn_F nd), (rn_F tg), a_branchSpots, a_entries, a_frameReturns, a_frameValues, a_closureLambdas, a_closureValues, a_waiting, a_records, a_calledSets) := by
  have hn : n ≤ 48 := by have := A.2.2.1; have := A.2.2.2.1; omega
  have hL : L ≤ 16 := A.2.2.2.2.2.1
  have ms := fun i => so_ms_lt hL (R.2.2.2.1 i)
  -- one call
  have inner : ∀ {J : Int32 → (Nat → Int32) → (Nat → Int32) → (Nat → Int32) → (Nat → Int32) → (Nat → Int32) → (Nat → Int32) → (Nat → Int32) → (Nat → Int32) → (Nat → Int32) → (Nat → Int32) → (Nat → Int32) → (Nat → Int32) → (Nat → Int32) → (Nat → Int32) → (Nat → Int32) → (Nat → Int32) → (Nat → Int32) → (Nat → Int32) → (Nat → Int32) → (Nat → Int64) → (Nat → Int32) → (Nat → Int64) → (Nat → Int64) → (Nat → Int32) → (Nat → Int32) → Prop} (x m : Nat), x < z → m < 131072 → ∀ tg0 : Nat → Nat, (∀ tg1, (∀ j, j ≠ x → tg1 j = tg0 j) → (∀ l, l < L → m = 2 ^ l → tg1 x = en l) → J (nI (x + 1)) a_kinds a_operands a_parents a_places a_children a_levels a_nests a_scopes a_nodeLambdas a_lambdaNodes a_liveNodes a_nodeFlows a_paramFlows (rn_F oc) (rn_F nd) (rn_F tg1) a_branchSpots a_entries a_frameReturns a_frameValues a_closureLambdas a_closureValues a_waiting a_records a_calledSets) →
      ∀ d l f tg1, l + d = L → d < f → (∀ j, j ≠ x → tg1 j = tg0 j) → (∀ l', l' < l → m = 2 ^ l' → tg1 x = en l') → wX_linkKnownCalls_40 post J (nI x) (nI m) f_cellLimit f_callLimit f_closureLimit f_nodes f_holes (nI L) f_stageReached f_grown (nI z) f_runningEngine f_ending f_callCount f_closureCount f_frame f_waitingCount f (nI l) a_kinds a_operands a_parents a_places a_children a_levels a_nests a_scopes a_nodeLambdas a_lambdaNodes a_liveNodes a_nodeFlows a_paramFlows (rn_F oc) (rn_F nd) (rn_F tg1) a_branchSpots a_entries a_frameReturns a_frameValues a_closureLambdas a_closureValues a_waiting a_records a_calledSets := by
    intro J x m hx hm tg0 hJ d
    induction d with
    | zero =>
      intro l f tg1 hl hf h1 h2
      obtain ⟨f, rfl⟩ : ∃ f', f = f' + 1 := ⟨f - 1, by omega⟩
      have e : l = L := by omega
      subst e
      exact br_t (nI_le (Nat.le_refl _) (by omega)) (nm_r (nI_1 x) (hJ tg1 h1 h2))
    | succ d ih =>
      intro l f tg1 hl hf h1 h2
      obtain ⟨f, rfl⟩ : ∃ f', f = f' + 1 := ⟨f - 1, by omega⟩
      have hpw : 2 ^ l < 2 ^ 16 := Nat.pow_lt_pow_right (by decide) (by omega)
      refine br_f (nI_ge (by omega) (by omega)) ?_
      rw [bi_shl l (by omega)]
      by_cases e : m = 2 ^ l
      · rw [e]
        refine br_t rfl ⟨vp_in_nI (by omega) (by omega), vp_in_nI (by omega) (by omega), ?_⟩
        rw [nI_clamp (n := x) (by omega), nI_clamp (n := l) (by omega), hen l (by omega), rn_put]
        rw [e] at ih
        refine nm_e (nm_r (nI_1 l) (ih (l + 1) f _ (by omega) (by omega) (fun j hj => ?_) (fun l' hl' e' => ?_)))
        · rw [tr_put_n _ _ hj]; exact h1 j hj
        · rw [tr_put_s]
          have : l' = l := by
            rcases Nat.lt_trichotomy l' l with q | q | q
            · have := Nat.pow_lt_pow_right (a := 2) (by decide) q; omega
            · exact q
            · omega
          rw [this]
      · refine br_f (fun w => e ((nI_eq (by omega) (by omega)).mp w)) (nm_r (nI_1 l) (ih (l + 1) f tg1 (by omega) (by omega) h1 (fun l' hl' e' => ?_)))
        by_cases q : l' = l
        · subst q; exact absurd e' e
        · exact h2 l' (by omega) e'
  have go : ∀ d x f tg1, x + d = z → d < f → (∀ j, j < z → oc j ≠ 6 → tg1 j = tg j) → (∀ y, y < x → oc y = 6 → ∀ l, l < L → t.2.1 (nd y + 1) = 2 ^ l → tg1 y = en l) → wX_linkKnownCalls_2 post f_cellLimit f_callLimit f_closureLimit f_nodes f_holes (nI L) f_stageReached f_grown (nI z) f_runningEngine f_ending f_callCount f_closureCount f_frame f_waitingCount f (nI x) a_kinds a_operands a_parents a_places a_children a_levels a_nests a_scopes a_nodeLambdas a_lambdaNodes a_liveNodes a_nodeFlows a_paramFlows (rn_F oc) (rn_F nd) (rn_F tg1) a_branchSpots a_entries a_frameReturns a_frameValues a_closureLambdas a_closureValues a_waiting a_records a_calledSets := by
    intro d
    induction d with
    | zero =>
      intro x f tg1 hx hf h1 h2
      obtain ⟨f, rfl⟩ : ∃ f', f = f' + 1 := ⟨f - 1, by omega⟩
      have e : x = z := by omega
      subst e
      exact br_t (nI_le (Nat.le_refl _) (by omega)) (h tg1 h1 h2)
    | succ d ih =>
      intro x f tg1 hx hf h1 h2
      obtain ⟨f, rfl⟩ : ∃ f', f = f' + 1 := ⟨f - 1, by omega⟩
      have vx : vp_in (nI x) 113 := vp_in_nI (by omega) (by omega)
      obtain ⟨c1, c2⟩ := hc x (by omega)
      have o9 := ho x (by omega)
      refine br_f (nI_ge (by omega) (by omega)) ⟨vx, ?_⟩
      rw [rn_at oc (by omega), rn_at nd (by omega)]
      by_cases e : oc x = 6
      · obtain ⟨r1, r2, _⟩ := re_kid0 A XT c1 (by have := c2 e; omega)
        rw [e]
        refine br_t rfl ⟨vx, xx_childAt (k := 0) (by omega) (by omega) ?_⟩
        rw [r2]
        refine ⟨vp_in_nI (by omega) (by omega), ?_⟩
        rw [nI_clamp (n := nd x + 1) (by omega)]
        refine nm_r (X.1 _ r1).2 ⟨L + 1, inner x _ (by omega) (ms _) tg1 (fun tg2 g1 g2 => ?_) L 0 (L + 1) tg1 (by omega) (by omega) (fun _ _ => rfl) (fun l' hl' => absurd hl' (Nat.not_lt_zero l'))⟩
        refine ih (x + 1) f tg2 (by omega) (by omega) (fun j hj oj => ?_) (fun y hy oy l hl el => ?_)
        · rw [g1 j (fun q => by subst q; exact oj e)]
          exact h1 j hj oj
        · by_cases q : y = x
          · subst q; exact g2 l hl el
          · rw [g1 y q]; exact h2 y (by omega) oy l hl el
      · refine br_f (fun w => e ((nI_eq (b := 6) (by omega) (by decide)).mp w)) (nm_r (nI_1 x) (ih (x + 1) f tg1 (by omega) (by omega) h1 (fun y hy oy l hl el => ?_)))
        by_cases q : y = x
        · subst q; exact absurd oy e
        · exact h2 y (by omega) oy l hl el
  exact ⟨z + 1, go z 0 (z + 1) tg (by omega) (by omega) (fun _ _ _ => rfl) (fun y hy => absurd hy (Nat.not_lt_zero y))⟩
end
end
section
/-! ===== compile ===== -/
section
variable {f_cellLimit f_callLimit f_closureLimit f_nodes f_holes f_lambdas f_stageReached f_grown f_codeLength f_runningEngine f_ending f_callCount f_closureCount f_frame f_waitingCount : Int32} {a_kinds a_operands a_parents a_places a_children a_levels a_nests a_scopes a_nodeLambdas a_lambdaNodes a_liveNodes a_nodeFlows a_paramFlows a_codeOps a_codeNodes a_codeTargets a_branchSpots a_entries a_frameReturns a_closureLambdas a_records a_calledSets : Nat → Int32} {a_closureValues a_frameValues a_waiting : Nat → Int64}
variable {cs n L : Nat} {K P N Lv S O B : Nat → Nat} {t : so_S}
theorem xx_compile {post : Int32 → SX → Prop} {st cn : Nat} {oc nd tg bs : Nat → Nat} (hst : 1 ≤ st) (hst2 : st ≤ 2) (A : re_A cs n 0 L K P N Lv S O B) (XT : re_X n K P N Lv S O B a_kinds a_operands a_parents a_places a_children a_levels a_nests a_scopes a_nodeLambdas a_lambdaNodes) (R : so_R n L t) (X : so_X n L t a_liveNodes a_nodeFlows a_paramFlows)
    (hpost : ∀ (z : Nat) (oc nd tg bs en : Nat → Nat) (ent : Nat → Int32), z ≤ 113 → cp_I K (tr_e P n) N oc nd tg en t n L z → (∀ x, x < z → oc x = 6 → ∀ l, l < L → t.2.1 (nd x + 1) = 2 ^ l → tg x = en l) → (∀ l, l < L → ent l = nI (en l)) → post (nI (fo_n K (tr_e P n) (re_bd K n) t n L)) (f_cellLimit, f_callLimit, f_closureLimit, (nI n), f_holes, (nI L), (nI 2), f_grown, (nI z), f_runningEngine, f_ending, f_callCount, f_closureCount, f_frame, f_waitingCount, a_kinds, a_operands, a_parents, a_places, a_children, a_levels, a_nests, a_scopes, a_nodeLambdas, a_lambdaNodes, a_liveNodes, a_nodeFlows, a_paramFlows, (rn_F oc), (rn_F nd), (rn_F tg), (rn_F bs), ent, a_frameReturns, a_frameValues, a_closureLambdas, a_closureValues, a_waiting, a_records, a_calledSets)) :
    wpX_compile post (f_cellLimit, f_callLimit, f_closureLimit, (nI n), f_holes, (nI L), (nI st), f_grown, (nI cn), f_runningEngine, f_ending, f_callCount, f_closureCount, f_frame, f_waitingCount, a_kinds, a_operands, a_parents, a_places, a_children, a_levels, a_nests, a_scopes, a_nodeLambdas, a_lambdaNodes, a_liveNodes, a_nodeFlows, a_paramFlows, (rn_F oc), (rn_F nd), (rn_F tg), (rn_F bs), a_entries, a_frameReturns, a_frameValues, a_closureLambdas, a_closureValues, a_waiting, a_records, a_calledSets) := by
  have hn : n ≤ 48 := by have := A.2.2.1; have := A.2.2.2.1; omega
  have hL : L ≤ 16 := A.2.2.2.2.2.1
  have hLn := A.2.2.2.2.1
  obtain ⟨h0, F⟩ := re_full A
  have T := tr_T_of A.1 F
  have C : tr_C K (tr_e P n) N n := tr_C_of A.1 F A.2.2.2.2.2.2.1
  have hK : ∀ m, m < n → K m ≤ 6 := fun m hm => (A.2.2.2.2.2.2.2.2.2.1 m hm).1
  obtain ⟨Y, y0, yb⟩ := tr_ky_of A.1 F hn
  have ag : ∀ {z x m : Nat} {oc nd tg oc' nd' tg' : Nat → Nat}, em_ag z oc nd tg oc' nd' tg' → z ≤ x → em_ag z oc nd tg (tr_put oc' x 9) (tr_put nd' x m) tg' := fun {z x m oc nd tg oc' nd' tg'} g hx j hj => by
    obtain ⟨g1, g2, g3⟩ := g j hj
    exact ⟨(tr_put_n _ _ (by omega)).trans g1, (tr_put_n _ _ (by omega)).trans g2, g3⟩
  -- the lambdas
  have go : ∀ d l f z oc nd tg bs en ent, l + d = L → d < f → cp_I K (tr_e P n) N oc nd tg en t n l z → z ≤ 2 * em_dd (tr_kyf K P 48) n (l + 1) + (l + 1) → (∀ j, j < l → ent j = nI (en j)) → wX_compile_23 post f (nI l) f_cellLimit f_callLimit f_closureLimit (nI n) f_holes (nI L) (nI st) f_grown (nI z) f_runningEngine f_ending f_callCount f_closureCount f_frame f_waitingCount a_kinds a_operands a_parents a_places a_children a_levels a_nests a_scopes a_nodeLambdas a_lambdaNodes a_liveNodes a_nodeFlows a_paramFlows (rn_F oc) (rn_F nd) (rn_F tg) (rn_F bs) ent a_frameReturns a_frameValues a_closureLambdas a_closureValues a_waiting a_records a_calledSets := by
    intro d
    induction d with
    | zero =>
      intro l f z oc nd tg bs en ent hl hf I hz he
      obtain ⟨f, rfl⟩ : ∃ f', f = f' + 1 := ⟨f - 1, by omega⟩
      have e : l = L := by omega
      subst e
      have hd := em_dd_n (tr_kyf K P 48) n (l + 1)
      refine br_t (nI_le (Nat.le_refl _) (by omega)) ?_
      refine xx_link A XT R X (by omega) (fun c hc => ⟨(I.2.2 c hc).1, (I.2.2 c hc).2.2.2.2⟩) (fun c hc => (I.2.2 c hc).2.1) he (fun tg' g1 g2 => ?_)
      exact xx_kept A XT R X (hpost z oc nd tg' bs en ent (by omega) (cp_link I g1) g2 he)
    | succ d ih =>
      intro l f z oc nd tg bs en ent hl hf I hz he
      obtain ⟨f, rfl⟩ : ∃ f', f = f' + 1 := ⟨f - 1, by omega⟩
      obtain ⟨q1, q2, q3⟩ := tr_ln_of (K := K) (n := n) (l := l) (by omega)
      obtain ⟨r1, r2, _⟩ := re_kid0 A XT q1 (by omega)
      have el := XT.2.2.2.2.2.2.2.2 _ q1 q2
      rw [q3] at el
      have kyb := yb _ q1 q2
      rw [q3] at kyb
      have r2' : a_children (tr_ln K n l * 3) = nI (tr_ln K n l + 1) := r2
      have vl : vp_in (nI l) 16 := vp_in_nI (by omega) (by omega)
      have vb : vp_in (nI (tr_ln K n l + 1)) 48 := vp_in_nI (by omega) (by omega)
      have hcl := nI_clamp (n := l) (by omega)
      have hcb := nI_clamp (n := tr_ln K n l + 1) (by omega)
      have dds := em_dd_s (tr_kyf K P 48) n (l + 1)
      have h1 := R.1 (tr_ln K n l + 1)
      refine br_f (nI_ge (by omega) (by omega)) (xx_bodyOf (by omega) (by omega) el ?_)
      rw [r2']
      refine ⟨vb, ?_⟩
      rw [hcb, (X.1 _ r1).1]
      by_cases w : t.1 (tr_ln K n l + 1) = 1
      · -- a live body
        rw [w]
        refine br_f (by decide) ⟨vl, nm_e ⟨vb, ?_⟩⟩
        rw [hcb, (X.1 _ r1).1, w, hcl]
        refine br_f (by decide) ?_
        have he' := (T _ r1).2.1
        obtain ⟨room1, room2, room3⟩ := em_room (e := tr_e P n) hn (show l + 1 ≤ 16 by omega) he' kyb hz
        refine xx_piece A XT r1 R X Y room2 (fun d x oc' nd' tg' bs' la u g => nm_r (nI_1 l) ?_)
        have lt := la_lt _ _ _ _ la
        have g' := ag (m := tr_ln K n l + 1) g (Nat.le_of_lt lt)
        obtain ⟨n1, n2⟩ := cp_new (N := N) T C hK r1 la
        refine ih (l + 1) f (x + 1) _ _ _ _ (tr_put en l z) _ (by omega) (by omega) ⟨cp_P_up I.1 g' (by omega), fun p hp kp hlp tp => ?_, fun c hc => ?_⟩ (room3 x u) (fun j hj => ?_)
        · by_cases e : tr_lc K p = l
          · have ep : p = tr_ln K n l := tr_lc_inj kp q2 (by omega)
            rw [e, tr_put_s, ep]
            exact n1
          · rw [tr_put_n _ _ e]
            exact cp_P_up (I.2.1 p hp kp (by omega) tp) g' (by omega)
        · rcases Nat.lt_or_ge c z with y | y
          · exact cp_c_up I.2.2 g' (by omega) c y
          · exact n2 c y hc
        · by_cases e : j = l
          · rw [e, re_us, tr_put_s]
          · rw [re_un e, tr_put_n _ _ e]; exact he j (by omega)
      · -- a dropped lambda
        have w0 : t.1 (tr_ln K n l + 1) = 0 := by omega
        rw [w0]
        refine br_t rfl ⟨vl, nm_e ⟨vb, ?_⟩⟩
        rw [hcb, (X.1 _ r1).1, w0, hcl]
        refine br_t rfl (nm_r (nI_1 l) ?_)
        refine ih (l + 1) f z oc nd tg bs (tr_put en l 0) _ (by omega) (by omega) ⟨I.1, fun p hp kp hlp tp => ?_, I.2.2⟩ (by omega) (fun j hj => ?_)
        · by_cases e : tr_lc K p = l
          · have ep : p = tr_ln K n l := tr_lc_inj kp q2 (by omega)
            rw [ep, w0] at tp
            cases tp
          · rw [tr_put_n _ _ e]
            exact I.2.1 p hp kp (by omega) tp
        · by_cases e : j = l
          · rw [e, re_us, tr_put_s]; rfl
          · rw [re_un e, tr_put_n _ _ e]; exact he j (by omega)
  have e0 : tr_e P n 0 ≤ n := (T 0 h0).2.1
  obtain ⟨room1, room2, room3⟩ := em_room (e := tr_e P n) (z := 0) hn (show 0 ≤ 16 by omega) e0 y0 (Nat.zero_le _)
  refine br_t (nI_le (a := 1) hst (by omega)) ?_
  refine xx_piece (z := 0) (st := 0) A XT h0 R X Y room2 (fun d x oc' nd' tg' bs' la u g => ?_)
  obtain ⟨n1, n2⟩ := cp_new (N := N) T C hK h0 la
  refine ⟨L + 1, go L 0 (L + 1) (x + 1) _ _ _ _ (fun _ => 0) _ (by omega) (by omega) ⟨n1, fun p _ _ hp => absurd hp (Nat.not_lt_zero _), fun c hc => n2 c (Nat.zero_le _) hc⟩ (room3 x u) (fun j hj => absurd hj (Nat.not_lt_zero j))⟩
end
section
variable {g_cellLimit g_callLimit g_closureLimit g_nodes g_holes g_reached : Int32} {b_kinds b_operands b_parents b_s b_p b_rec b_sets b_live b_done b_fn b_val b_entered b_bind : Nat → Int32}
variable {cs n L : Nat} {K P N Lv S O B : Nat → Nat} {t : so_S}
theorem yy_compile {post : Int32 → SY → Prop} {st : Nat} (hst : 1 ≤ st) (hst2 : st ≤ 2) (A : re_A cs n 0 L K P N Lv S O B) (hk : ∀ m, m < n → b_kinds m = nI (K m) ∧ K m ≤ 6) (hpa : ∀ m, 0 < m → m < n → b_parents m = nI (P m)) (R : so_R n L t) (X : so_X n L t b_live b_s b_p) (h : post (nI (fo_n K (tr_e P n) (re_bd K n) t n L)) (g_cellLimit, g_callLimit, g_closureLimit, (nI n), g_holes, (nI 2), b_kinds, b_operands, b_parents, b_s, b_p, b_rec, b_sets, b_live, b_done, b_fn, b_val, b_entered, b_bind)) : wpY_compile post (g_cellLimit, g_callLimit, g_closureLimit, (nI n), g_holes, (nI st), b_kinds, b_operands, b_parents, b_s, b_p, b_rec, b_sets, b_live, b_done, b_fn, b_val, b_entered, b_bind) := by
  have hn : n ≤ 48 := by have := A.2.2.1; have := A.2.2.2.1; omega
  have hL : L ≤ 16 := A.2.2.2.2.2.1
  have hLn := A.2.2.2.2.1
  have gB : ∀ d i f, i + d = 16 → d < f → L ≤ i → wY_compile_15 post g_cellLimit g_callLimit g_closureLimit (nI n) g_holes (nI st) b_kinds b_operands b_parents b_s b_p b_rec b_sets b_live b_done b_fn b_val b_entered b_bind f (nI (fo_n K (tr_e P n) (re_bd K n) t n L)) (nI i) := by
    intro d
    induction d with
    | zero =>
      intro i f hi hf hLi
      obtain ⟨f, rfl⟩ : ∃ f', f = f' + 1 := ⟨f - 1, by omega⟩
      have e : i = 16 := by omega
      subst e
      exact br_t (by decide) h
    | succ d ih =>
      intro i f hi hf hLi
      obtain ⟨f, rfl⟩ : ∃ f', f = f' + 1 := ⟨f - 1, by omega⟩
      refine br_f (nI_ge (b := 16) (by omega) (by decide)) ?_
      unfold wpY_form
      refine yy_lambdaNode hn hk (fun a ha ka ea => ?_) (fun _ => ?_)
      · have la := tr_lc_lt ha ka
        have : i = tr_lc K a := (nI_eq (by omega) (by omega)).mp ea
        omega
      · exact br_f (fun w => by have := (ez_st hst2).1.mp w; omega) (br_f (by decide) (br_t (by decide) (nm_r (nI_1 i) (ih (i + 1) f (by omega) (by omega) (by omega)))))
  have gA : ∀ d i f, i + d = L → d + 17 < f → wY_compile_15 post g_cellLimit g_callLimit g_closureLimit (nI n) g_holes (nI st) b_kinds b_operands b_parents b_s b_p b_rec b_sets b_live b_done b_fn b_val b_entered b_bind f (nI (fo_n K (tr_e P n) (re_bd K n) t n i)) (nI i) := by
    intro d
    induction d with
    | zero =>
      intro i f hi hf
      have e : i = L := by omega
      subst e
      exact gB (16 - i) i f (by omega) (by omega) (Nat.le_refl _)
    | succ d ih =>
      intro i f hi hf
      obtain ⟨f, rfl⟩ : ∃ f', f = f' + 1 := ⟨f - 1, by omega⟩
      have nx := ih (i + 1) f (by omega) (by omega)
      have e : fo_n K (tr_e P n) (re_bd K n) t n (i + 1) = (if fo_c K (tr_e P n) (re_bd K n) t n i = 0 then fo_n K (tr_e P n) (re_bd K n) t n i else fo_n K (tr_e P n) (re_bd K n) t n i + 1) := rfl
      rw [e] at nx
      have c2 := fo_c2 K (tr_e P n) (re_bd K n) t n i
      refine br_f (nI_ge (b := 16) (by omega) (by decide)) (yy_form A hk hpa hst hst2 (by omega) R X ?_)
      by_cases z : fo_c K (tr_e P n) (re_bd K n) t n i = 0
      · rw [if_pos z] at nx
        rw [z]
        exact br_t (by decide) (nm_r (nI_1 i) nx)
      · rw [if_neg z] at nx
        exact br_f (nI_nle (by omega) (by omega)) (nm_r (nI_1 _) (nm_r (nI_1 i) nx))
  exact br_t (nI_le (a := 1) hst (by omega)) ⟨L + 18, gA L 0 (L + 18) (by omega) (by omega)⟩
end
theorem i_vc_compile {k : Nat} {u : SX} {v : SY} (I : i_Rel k u v) (hk : k + 3 ≤ 1539) : wpX_compile (fun r u' => wpY_compile (fun r' v' => r' = r ∧ i_Rel (k + 3) u' v') v) u := by
  refine i_el (G := fun u v => wpX_compile (fun r u' => wpY_compile (fun r' v' => r' = r ∧ i_Rel (k + 3) u' v') v) u) I ?_
  intro cs cl cm n h L st cn K P N Lv S O B oc nd tg bs en dn et bi f_grown f_runningEngine f_ending f_callCount f_closureCount f_frame f_waitingCount a_kinds a_operands a_parents a_places a_children a_levels a_nests a_scopes a_nodeLambdas a_lambdaNodes a_liveNodes a_nodeFlows a_paramFlows a_entries a_frameReturns a_closureLambdas a_records a_calledSets a_closureValues a_frameValues a_waiting b_s b_p b_live b_fn b_val hI I0
  obtain ⟨A, X, l1, l2, m1, m2, s, S1, S2⟩ := hI
  obtain ⟨hn, hh, hL⟩ := ez_48 A
  by_cases z : st = 0
  · have q : ¬ 1 ≤ nI st := by rw [z]; decide
    exact br_f q (br_f q ⟨rfl, I0⟩)
  · obtain ⟨h0, a1, a2⟩ := S1 (by omega)
    subst h0
    have R := so_sol_R (re_so_T A (re_bd_is (K := K) (n := n))) (re_full A).1
    refine xx_compile (by omega) s A X R a1 (fun z' oc' nd' tg' bs' en' ent hz I1 I2 I3 => ?_)
    refine yy_compile (by omega) s A (ez_kd A X) X.2.2.2.1 R a2 ⟨rfl, ?_⟩
    exact i_in (st := 2) (N := N) (Lv := Lv) (S := S) (O := O) (en := en') ⟨A, X, l1, l2, m1, m2, by decide, fun _ => ⟨rfl, a1, a2⟩, fun _ => ⟨hz, I1, I2, I3⟩⟩
end
section
/-! ===== the class: what both engines do with values ===== -/
def ru_m (K : Nat → Nat) (p : Nat) : Int32 := (1 : Int32) <<< (nI (tr_lc K p) &&& 31)
def ru_r (E : Nat) (r : Nat → Int32) (a b c d e : Int32) : Nat → Int32 := upd (upd (upd (upd (upd r (E * 5) a) (E * 5 + 1) b) (E * 5 + 2) c) (E * 5 + 3) d) (E * 5 + 4) e
theorem ru_5 (a b : Nat) : nI a * 5 + nI b = nI (a * 5 + b) := by
  show nI a * nI 5 + nI b = _
  rw [pk_mul, nI_add]
theorem ru_48 (a b : Nat) : nI a * 48 + nI b = nI (a * 48 + b) := by
  show nI a * nI 48 + nI b = _
  rw [pk_mul, nI_add]
section
variable {f_cellLimit f_callLimit f_closureLimit f_nodes f_holes f_lambdas f_stageReached f_grown f_codeLength f_runningEngine f_ending f_callCount f_closureCount f_frame f_waitingCount : Int32} {a_kinds a_operands a_parents a_places a_children a_levels a_nests a_scopes a_nodeLambdas a_lambdaNodes a_liveNodes a_nodeFlows a_paramFlows a_codeOps a_codeNodes a_codeTargets a_branchSpots a_entries a_frameReturns a_closureLambdas a_records a_calledSets : Nat → Int32} {a_closureValues a_frameValues a_waiting : Nat → Int64}
variable {cs n L cl cm E f w c : Nat} {K P N Lv S O B nn : Nat → Nat} {old : Nat → Int32} {s : ev_S} {F : Nat → Nat → ev_V} {R : Nat → Nat} {W : Nat → ev_V}
theorem xo_endRun {post : SX → Prop} {p0 p1 p2 : Int32} (hE : E < 2) (hp : post (f_cellLimit, f_callLimit, f_closureLimit, f_nodes, f_holes, f_lambdas, f_stageReached, f_grown, f_codeLength, (nI E), p0, f_callCount, f_closureCount, f_frame, f_waitingCount, a_kinds, a_operands, a_parents, a_places, a_children, a_levels, a_nests, a_scopes, a_nodeLambdas, a_lambdaNodes, a_liveNodes, a_nodeFlows, a_paramFlows, a_codeOps, a_codeNodes, a_codeTargets, a_branchSpots, a_entries, a_frameReturns, a_frameValues, a_closureLambdas, a_closureValues, a_waiting, (ru_r E a_records p0 p1 p2 f_callCount f_closureCount), a_calledSets)) : wpX_endRun post (f_cellLimit, f_callLimit, f_closureLimit, f_nodes, f_holes, f_lambdas, f_stageReached, f_grown, f_codeLength, (nI E), f_ending, f_callCount, f_closureCount, f_frame, f_waitingCount, a_kinds, a_operands, a_parents, a_places, a_children, a_levels, a_nests, a_scopes, a_nodeLambdas, a_lambdaNodes, a_liveNodes, a_nodeFlows, a_paramFlows, a_codeOps, a_codeNodes, a_codeTargets, a_branchSpots, a_entries, a_frameReturns, a_frameValues, a_closureLambdas, a_closureValues, a_waiting, a_records, a_calledSets) p0 p1 p2 := by
  have e5 : nI E * 5 = nI (E * 5) := pk_mul E 5
  have e : ∀ k, k < 5 → vp_in (nI (E * 5) + nI k) 10 ∧ (nI (E * 5) + nI k).toNatClampNeg = E * 5 + k := fun k hk => by
    rw [nI_add, nI_clamp (by omega)]
    exact ⟨vp_in_nI (by omega) (by omega), rfl⟩
  refine nm_r e5 ⟨vp_in_nI (by omega) (by omega), nm_e ⟨(e 1 (by omega)).1, nm_e ⟨(e 2 (by omega)).1, nm_e ⟨(e 3 (by omega)).1, nm_e ⟨(e 4 (by omega)).1, nm_e ?_⟩⟩⟩⟩⟩
  have j1 : (nI (E * 5) + 1).toNatClampNeg = E * 5 + 1 := (e 1 (by omega)).2
  have j2 : (nI (E * 5) + 2).toNatClampNeg = E * 5 + 2 := (e 2 (by omega)).2
  have j3 : (nI (E * 5) + 3).toNatClampNeg = E * 5 + 3 := (e 3 (by omega)).2
  have j4 : (nI (E * 5) + 4).toNatClampNeg = E * 5 + 4 := (e 4 (by omega)).2
  rw [nI_clamp (by omega), j1, j2, j3, j4]
  exact hp
theorem xo_push {post : SX → Prop} {v : Int64} (hw : w < 294) (hp : post (f_cellLimit, f_callLimit, f_closureLimit, f_nodes, f_holes, f_lambdas, f_stageReached, f_grown, f_codeLength, f_runningEngine, f_ending, f_callCount, f_closureCount, f_frame, (nI (w + 1)), a_kinds, a_operands, a_parents, a_places, a_children, a_levels, a_nests, a_scopes, a_nodeLambdas, a_lambdaNodes, a_liveNodes, a_nodeFlows, a_paramFlows, a_codeOps, a_codeNodes, a_codeTargets, a_branchSpots, a_entries, a_frameReturns, a_frameValues, a_closureLambdas, a_closureValues, (vp_updL a_waiting w v), a_records, a_calledSets)) : wpX_push post (f_cellLimit, f_callLimit, f_closureLimit, f_nodes, f_holes, f_lambdas, f_stageReached, f_grown, f_codeLength, f_runningEngine, f_ending, f_callCount, f_closureCount, f_frame, (nI w), a_kinds, a_operands, a_parents, a_places, a_children, a_levels, a_nests, a_scopes, a_nodeLambdas, a_lambdaNodes, a_liveNodes, a_nodeFlows, a_paramFlows, a_codeOps, a_codeNodes, a_codeTargets, a_branchSpots, a_entries, a_frameReturns, a_frameValues, a_closureLambdas, a_closureValues, a_waiting, a_records, a_calledSets) v := by
  refine ⟨vp_in_nI hw (by omega), ?_⟩
  rw [nI_clamp (by omega)]
  exact nm_e (nm_r (nI_1 w) hp)
theorem xo_pop {post : Int64 → SX → Prop} (hw : w < 294) (hp : post (a_waiting w) (f_cellLimit, f_callLimit, f_closureLimit, f_nodes, f_holes, f_lambdas, f_stageReached, f_grown, f_codeLength, f_runningEngine, f_ending, f_callCount, f_closureCount, f_frame, (nI w), a_kinds, a_operands, a_parents, a_places, a_children, a_levels, a_nests, a_scopes, a_nodeLambdas, a_lambdaNodes, a_liveNodes, a_nodeFlows, a_paramFlows, a_codeOps, a_codeNodes, a_codeTargets, a_branchSpots, a_entries, a_frameReturns, a_frameValues, a_closureLambdas, a_closureValues, a_waiting, a_records, a_calledSets)) : wpX_pop post (f_cellLimit, f_callLimit, f_closureLimit, f_nodes, f_holes, f_lambdas, f_stageReached, f_grown, f_codeLength, f_runningEngine, f_ending, f_callCount, f_closureCount, f_frame, (nI (w + 1)), a_kinds, a_operands, a_parents, a_places, a_children, a_levels, a_nests, a_scopes, a_nodeLambdas, a_lambdaNodes, a_liveNodes, a_nodeFlows, a_paramFlows, a_codeOps, a_codeNodes, a_codeTargets, a_branchSpots, a_entries, a_frameReturns, a_frameValues, a_closureLambdas, a_closureValues, a_waiting, a_records, a_calledSets) := by
  refine nm_r (nI_pred w) ⟨vp_in_nI hw (by omega), ?_⟩
  rw [nI_clamp (by omega)]
  exact hp
theorem xo_isN {post : Int32 → Prop} (i : Int32) (hp : post 0) : wpX_isClosure post (bi_enc (.inl i)) := br_t (bi_n i) hp
theorem xo_isC {post : Int32 → Prop} {k : Nat} (hk : k < 64) (hp : post 1) : wpX_isClosure post (bi_enc (.inr k)) := br_f (bi_k k hk).2.1 hp
theorem xo_num {post : SX → Prop} (i : Int32) (hw : w < 294) (H : xr_P (tr_lc K) N nn c (s, f, F, R, w, W) f_callCount f_closureCount a_closureLambdas a_closureValues f_frame a_frameReturns a_frameValues f_waitingCount a_waiting) (hp : ∀ wc wt, xr_P (tr_lc K) N nn c (s, f, F, R, w + 1, am_pw W w (.inl i)) f_callCount f_closureCount a_closureLambdas a_closureValues f_frame a_frameReturns a_frameValues wc wt → post (f_cellLimit, f_callLimit, f_closureLimit, f_nodes, f_holes, f_lambdas, f_stageReached, f_grown, f_codeLength, f_runningEngine, f_ending, f_callCount, f_closureCount, f_frame, wc, a_kinds, a_operands, a_parents, a_places, a_children, a_levels, a_nests, a_scopes, a_nodeLambdas, a_lambdaNodes, a_liveNodes, a_nodeFlows, a_paramFlows, a_codeOps, a_codeNodes, a_codeTargets, a_branchSpots, a_entries, a_frameReturns, a_frameValues, a_closureLambdas, a_closureValues, wt, a_records, a_calledSets)) : wpX_pushNumber post (f_cellLimit, f_callLimit, f_closureLimit, f_nodes, f_holes, f_lambdas, f_stageReached, f_grown, f_codeLength, f_runningEngine, f_ending, f_callCount, f_closureCount, f_frame, f_waitingCount, a_kinds, a_operands, a_parents, a_places, a_children, a_levels, a_nests, a_scopes, a_nodeLambdas, a_lambdaNodes, a_liveNodes, a_nodeFlows, a_paramFlows, a_codeOps, a_codeNodes, a_codeTargets, a_branchSpots, a_entries, a_frameReturns, a_frameValues, a_closureLambdas, a_closureValues, a_waiting, a_records, a_calledSets) i := by
  have h6 : f_waitingCount = nI w := H.2.2.2.2.2.1
  subst h6
  unfold wpX_pushNumber
  exact xo_push hw (hp _ _ (xr_push H (.inl i) rfl))
theorem xo_var {post : SX → Prop} {m : Nat} (A : re_A cs n 0 L K P N Lv S O B) (XT : re_X n K P N Lv S O B a_kinds a_operands a_parents a_places a_children a_levels a_nests a_scopes a_nodeLambdas a_lambdaNodes) (hm : m < n) (k : K m = 0) (hf : f ≤ 48) (hw : w < 294) (hnn : nn c = N m) (H : xr_P (tr_lc K) N nn c (s, f, F, R, w, W) f_callCount f_closureCount a_closureLambdas a_closureValues f_frame a_frameReturns a_frameValues f_waitingCount a_waiting) (hp : ∀ wc wt, xr_P (tr_lc K) N nn c (s, f, F, R, w + 1, am_pw W w (F f (re_ix N O m))) f_callCount f_closureCount a_closureLambdas a_closureValues f_frame a_frameReturns a_frameValues wc wt → post (f_cellLimit, f_callLimit, f_closureLimit, f_nodes, f_holes, f_lambdas, f_stageReached, f_grown, f_codeLength, f_runningEngine, f_ending, f_callCount, f_closureCount, f_frame, wc, a_kinds, a_operands, a_parents, a_places, a_children, a_levels, a_nests, a_scopes, a_nodeLambdas, a_lambdaNodes, a_liveNodes, a_nodeFlows, a_paramFlows, a_codeOps, a_codeNodes, a_codeTargets, a_branchSpots, a_entries, a_frameReturns, a_frameValues, a_closureLambdas, a_closureValues, wt, a_records, a_calledSets)) : wpX_pushBound post (f_cellLimit, f_callLimit, f_closureLimit, f_nodes, f_holes, f_lambdas, f_stageReached, f_grown, f_codeLength, f_runningEngine, f_ending, f_callCount, f_closureCount, f_frame, f_waitingCount, a_kinds, a_operands, a_parents, a_places, a_children, a_levels, a_nests, a_scopes, a_nodeLambdas, a_lambdaNodes, a_liveNodes, a_nodeFlows, a_paramFlows, a_codeOps, a_codeNodes, a_codeTargets, a_branchSpots, a_entries, a_frameReturns, a_frameValues, a_closureLambdas, a_closureValues, a_waiting, a_records, a_calledSets) (nI m) := by
  have hn : n ≤ 48 := by have := A.2.2.1; have := A.2.2.2.1; omega
  have D := A.2.2.2.2.2.2.2.2.2.1 m hm
  have ho := (A.2.2.2.2.2.2.2.2.2.2 m hm k).1
  have h2 : f_frame = nI f := H.2.1
  have h6 : f_waitingCount = nI w := H.2.2.2.2.2.1
  subst h2 h6
  have v : vp_in (nI m) 48 := vp_in_nI (by omega) (by omega)
  refine ⟨v, v, ?_⟩
  rw [nI_clamp (by omega), (XT.2.2.2.2.2.2.1 m hm).2.1, XT.2.1 m hm k]
  have e1 : nI (N m) - 1 = nI (N m - 1) := pk_sub (b := 1) (by omega)
  have e2 : nI (N m) - 1 - nI (O m) = nI (re_ix N O m) := by
    rw [e1]
    exact pk_sub (by omega)
  have hi : re_ix N O m < 5 ∧ re_ix N O m < N m := by
    show N m - 1 - O m < 5 ∧ N m - 1 - O m < N m
    omega
  refine nm_r e2 ?_
  rw [ru_5, nI_clamp (by omega)]
  refine ⟨vp_in_nI (by omega) (by omega), ?_⟩
  have hv : a_frameValues (f * 5 + re_ix N O m) = bi_enc (F f (re_ix N O m)) := H.2.2.2.2.1 _ (by rw [hnn]; exact hi.2) hi.1
  rw [hv]
  exact xo_push hw (hp _ _ (xr_push H _ rfl))
theorem xo_lamF {post : SX → Prop} {m : Nat} (hE : E < 2) (h64 : cm ≤ 64) (hc : s.2.1 = cm) (H : xr_P (tr_lc K) N nn c (s, f, F, R, w, W) f_callCount f_closureCount a_closureLambdas a_closureValues f_frame a_frameReturns a_frameValues f_waitingCount a_waiting) (hp : post (f_cellLimit, f_callLimit, (nI cm), f_nodes, f_holes, f_lambdas, f_stageReached, f_grown, f_codeLength, (nI E), (nI 5), (nI s.1), (nI s.2.1), f_frame, f_waitingCount, a_kinds, a_operands, a_parents, a_places, a_children, a_levels, a_nests, a_scopes, a_nodeLambdas, a_lambdaNodes, a_liveNodes, a_nodeFlows, a_paramFlows, a_codeOps, a_codeNodes, a_codeTargets, a_branchSpots, a_entries, a_frameReturns, a_frameValues, a_closureLambdas, a_closureValues, a_waiting, (ru_r E a_records (nI 5) (nI 0) (nI m) (nI s.1) (nI s.2.1)), a_calledSets)) : wpX_pushClosure post (f_cellLimit, f_callLimit, (nI cm), f_nodes, f_holes, f_lambdas, f_stageReached, f_grown, f_codeLength, (nI E), f_ending, f_callCount, f_closureCount, f_frame, f_waitingCount, a_kinds, a_operands, a_parents, a_places, a_children, a_levels, a_nests, a_scopes, a_nodeLambdas, a_lambdaNodes, a_liveNodes, a_nodeFlows, a_paramFlows, a_codeOps, a_codeNodes, a_codeTargets, a_branchSpots, a_entries, a_frameReturns, a_frameValues, a_closureLambdas, a_closureValues, a_waiting, a_records, a_calledSets) (nI m) := by
  have h1 : f_callCount = nI s.1 := H.1.1
  have h1b : f_closureCount = nI s.2.1 := H.1.2.1
  subst h1 h1b
  exact br_t (by rw [hc]) (xo_endRun (p0 := nI 5) (p1 := nI 0) hE hp)
theorem xo_lam {post : SX → Prop} {m : Nat} (A : re_A cs n 0 L K P N Lv S O B) (XT : re_X n K P N Lv S O B a_kinds a_operands a_parents a_places a_children a_levels a_nests a_scopes a_nodeLambdas a_lambdaNodes) (hm : m < n) (k : K m = 2) (hf : f ≤ 48) (hw : w < 294) (h64 : cm ≤ 64) (Wf : ev_W K N n cl cm s) (hc : s.2.1 ≠ cm) (hnn : nn c = N m) (H : xr_P (tr_lc K) N nn c (s, f, F, R, w, W) f_callCount f_closureCount a_closureLambdas a_closureValues f_frame a_frameReturns a_frameValues f_waitingCount a_waiting) (hp : ∀ co cll clv wc wt, xr_P (tr_lc K) N nn c (ev_clo m (F f) s, f, F, R, w + 1, am_pw W w (.inr s.2.1)) f_callCount co cll clv f_frame a_frameReturns a_frameValues wc wt → post (f_cellLimit, f_callLimit, (nI cm), f_nodes, f_holes, f_lambdas, f_stageReached, f_grown, f_codeLength, f_runningEngine, f_ending, f_callCount, co, f_frame, wc, a_kinds, a_operands, a_parents, a_places, a_children, a_levels, a_nests, a_scopes, a_nodeLambdas, a_lambdaNodes, a_liveNodes, a_nodeFlows, a_paramFlows, a_codeOps, a_codeNodes, a_codeTargets, a_branchSpots, a_entries, a_frameReturns, a_frameValues, cll, clv, wt, a_records, a_calledSets)) : wpX_pushClosure post (f_cellLimit, f_callLimit, (nI cm), f_nodes, f_holes, f_lambdas, f_stageReached, f_grown, f_codeLength, f_runningEngine, f_ending, f_callCount, f_closureCount, f_frame, f_waitingCount, a_kinds, a_operands, a_parents, a_places, a_children, a_levels, a_nests, a_scopes, a_nodeLambdas, a_lambdaNodes, a_liveNodes, a_nodeFlows, a_paramFlows, a_codeOps, a_codeNodes, a_codeTargets, a_branchSpots, a_entries, a_frameReturns, a_frameValues, a_closureLambdas, a_closureValues, a_waiting, a_records, a_calledSets) (nI m) := by
  have hn : n ≤ 48 := by have := A.2.2.1; have := A.2.2.2.1; omega
  have Da := A.2.2.2.2.2.2.2.2.2.1
  have D := Da m hm
  have h1b : f_closureCount = nI s.2.1 := H.1.2.1
  have h2 : f_frame = nI f := H.2.1
  have h6 : f_waitingCount = nI w := H.2.2.2.2.2.1
  subst h1b h2 h6
  have hq := Wf.2.1
  have v : vp_in (nI m) 48 := vp_in_nI (by omega) (by omega)
  have hcm := nI_clamp (n := m) (by omega)
  have hN : ∀ k, k < s.2.1 → N (s.2.2.1 k) ≤ 5 := fun k hk => by
    obtain ⟨a, b, _⟩ := Wf.2.2 k hk
    exact (Da _ a).2.1
  refine br_f (fun e => hc ((nI_eq (by omega) (by omega)).mp e)) ⟨v, vp_in_nI (by omega) (by omega), ?_⟩
  rw [hcm, nI_clamp (n := s.2.1) (by omega), (XT.2.2.2.2.2.2.2.1 m hm).2.1 k]
  refine nm_e ⟨N m + 1, ?_⟩
  have go : ∀ d i f' clv, i + d = N m → d < f' → (∀ j, j < i → clv (s.2.1 * 5 + j) = a_frameValues (f * 5 + j)) → (∀ j, j < s.2.1 * 5 → clv j = a_closureValues j) → wX_pushClosure_36 post (nI m) f_cellLimit f_callLimit (nI cm) f_nodes f_holes f_lambdas f_stageReached f_grown f_codeLength f_runningEngine f_ending f_callCount (nI s.2.1) (nI f) (nI w) f' (nI i) a_kinds a_operands a_parents a_places a_children a_levels a_nests a_scopes a_nodeLambdas a_lambdaNodes a_liveNodes a_nodeFlows a_paramFlows a_codeOps a_codeNodes a_codeTargets a_branchSpots a_entries a_frameReturns a_frameValues (upd a_closureLambdas s.2.1 (nI (tr_lc K m))) clv a_waiting a_records a_calledSets := by
    intro d
    induction d with
    | zero =>
      intro i f' clv hi hf' g1 g2
      obtain ⟨f', rfl⟩ : ∃ f'', f' = f'' + 1 := ⟨f' - 1, by omega⟩
      have e : i = N m := by omega
      subst e
      refine ⟨v, ?_⟩
      rw [hcm, (XT.2.2.2.2.2.2.1 m hm).2.1]
      refine br_t (nI_le (Nat.le_refl _) (by omega)) (xo_push hw (nm_r (nI_1 _) ?_))
      have H2 := xr_clo (m := m) (co' := nI (s.2.1 + 1)) (cll' := upd a_closureLambdas s.2.1 (nI (tr_lc K m))) (clv' := clv) H hnn D.2.1 hN rfl re_us (fun j hj => re_un (by omega)) g1 g2
      exact hp _ _ _ _ _ (xr_push H2 (.inr s.2.1) rfl)
    | succ d ih =>
      intro i f' clv hi hf' g1 g2
      obtain ⟨f', rfl⟩ : ∃ f'', f' = f'' + 1 := ⟨f' - 1, by omega⟩
      refine ⟨v, ?_⟩
      rw [hcm, (XT.2.2.2.2.2.2.1 m hm).2.1]
      refine br_f (nI_ge (by omega) (by omega)) ?_
      rw [ru_5, ru_5, nI_clamp (n := f * 5 + i) (by omega), nI_clamp (n := s.2.1 * 5 + i) (by omega)]
      refine ⟨vp_in_nI (by omega) (by omega), vp_in_nI (by omega) (by omega), nm_e (nm_r (nI_1 i) ?_)⟩
      refine ih (i + 1) f' _ (by omega) (by omega) (fun j hj => ?_) (fun j hj => ?_)
      · by_cases e : j = i
        · rw [e, xr_us]
        · rw [xr_un (by omega)]; exact g1 j (by omega)
      · rw [xr_un (by omega)]; exact g2 j hj
  exact go (N m) 0 (N m + 1) a_closureValues (by omega) (by omega) (fun j hj => absurd hj (Nat.not_lt_zero j)) (fun _ _ => rfl)
end
end
section
/-! ===== the class: branches, sums, calls, returns, the end ===== -/
section
variable {f_cellLimit f_callLimit f_closureLimit f_nodes f_holes f_lambdas f_stageReached f_grown f_codeLength f_runningEngine f_ending f_callCount f_closureCount f_frame f_waitingCount : Int32} {a_kinds a_operands a_parents a_places a_children a_levels a_nests a_scopes a_nodeLambdas a_lambdaNodes a_liveNodes a_nodeFlows a_paramFlows a_codeOps a_codeNodes a_codeTargets a_branchSpots a_entries a_frameReturns a_closureLambdas a_records a_calledSets : Nat → Int32} {a_closureValues a_frameValues a_waiting : Nat → Int64}
variable {cs n L cl cm E f w c : Nat} {K P N Lv S O B nn : Nat → Nat} {old : Nat → Int32} {s : ev_S} {F : Nat → Nat → ev_V} {R : Nat → Nat} {W : Nat → ev_V}
theorem xo_if {post : Int32 → SX → Prop} {m : Int32} {a b : Int32} (i : Int32) (hw : w < 294) (H : xr_P (tr_lc K) N nn c (s, f, F, R, w + 1, am_pw W w (.inl i)) f_callCount f_closureCount a_closureLambdas a_closureValues f_frame a_frameReturns a_frameValues f_waitingCount a_waiting) (hp : ∀ wc, xr_P (tr_lc K) N nn c (s, f, F, R, w, W) f_callCount f_closureCount a_closureLambdas a_closureValues f_frame a_frameReturns a_frameValues wc a_waiting → post (if i = 0 then a else b) (f_cellLimit, f_callLimit, f_closureLimit, f_nodes, f_holes, f_lambdas, f_stageReached, f_grown, f_codeLength, f_runningEngine, f_ending, f_callCount, f_closureCount, f_frame, wc, a_kinds, a_operands, a_parents, a_places, a_children, a_levels, a_nests, a_scopes, a_nodeLambdas, a_lambdaNodes, a_liveNodes, a_nodeFlows, a_paramFlows, a_codeOps, a_codeNodes, a_codeTargets, a_branchSpots, a_entries, a_frameReturns, a_frameValues, a_closureLambdas, a_closureValues, a_waiting, a_records, a_calledSets)) : wpX_branch post (f_cellLimit, f_callLimit, f_closureLimit, f_nodes, f_holes, f_lambdas, f_stageReached, f_grown, f_codeLength, f_runningEngine, f_ending, f_callCount, f_closureCount, f_frame, f_waitingCount, a_kinds, a_operands, a_parents, a_places, a_children, a_levels, a_nests, a_scopes, a_nodeLambdas, a_lambdaNodes, a_liveNodes, a_nodeFlows, a_paramFlows, a_codeOps, a_codeNodes, a_codeTargets, a_branchSpots, a_entries, a_frameReturns, a_frameValues, a_closureLambdas, a_closureValues, a_waiting, a_records, a_calledSets) m a b := by
  obtain ⟨h6, h7, h8⟩ := xr_pop H
  subst h6
  unfold wpX_branch
  refine xo_pop hw ?_
  rw [h7]
  refine xo_isN i (br_t rfl ?_)
  have hh := hp _ (h8 _ rfl)
  by_cases z : i = 0
  · rw [if_pos z] at hh
    exact br_t ((bi_z i).mpr z) hh
  · rw [if_neg z] at hh
    exact br_f (fun e => z ((bi_z i).mp e)) hh
theorem xo_ifS {post : Int32 → SX → Prop} {m a b : Nat} {k : Nat} (hE : E < 2) (hw : w < 294) (hk : k < 64) (H : xr_P (tr_lc K) N nn c (s, f, F, R, w + 1, am_pw W w (.inr k)) f_callCount f_closureCount a_closureLambdas a_closureValues f_frame a_frameReturns a_frameValues f_waitingCount a_waiting) (hp : ∀ r wc, post r (f_cellLimit, f_callLimit, f_closureLimit, f_nodes, f_holes, f_lambdas, f_stageReached, f_grown, f_codeLength, (nI E), (nI 3), (nI s.1), (nI s.2.1), f_frame, wc, a_kinds, a_operands, a_parents, a_places, a_children, a_levels, a_nests, a_scopes, a_nodeLambdas, a_lambdaNodes, a_liveNodes, a_nodeFlows, a_paramFlows, a_codeOps, a_codeNodes, a_codeTargets, a_branchSpots, a_entries, a_frameReturns, a_frameValues, a_closureLambdas, a_closureValues, a_waiting, (ru_r E a_records (nI 3) (nI 0) (nI m) (nI s.1) (nI s.2.1)), a_calledSets)) : wpX_branch post (f_cellLimit, f_callLimit, f_closureLimit, f_nodes, f_holes, f_lambdas, f_stageReached, f_grown, f_codeLength, (nI E), f_ending, f_callCount, f_closureCount, f_frame, f_waitingCount, a_kinds, a_operands, a_parents, a_places, a_children, a_levels, a_nests, a_scopes, a_nodeLambdas, a_lambdaNodes, a_liveNodes, a_nodeFlows, a_paramFlows, a_codeOps, a_codeNodes, a_codeTargets, a_branchSpots, a_entries, a_frameReturns, a_frameValues, a_closureLambdas, a_closureValues, a_waiting, a_records, a_calledSets) (nI m) (nI a) (nI b) := by
  obtain ⟨h6, h7, h8⟩ := xr_pop H
  have h1 : f_callCount = nI s.1 := H.1.1
  have h1b : f_closureCount = nI s.2.1 := H.1.2.1
  subst h6 h1 h1b
  unfold wpX_branch
  refine xo_pop hw ?_
  rw [h7]
  refine xo_isC hk (br_f (by decide) (xo_endRun (p0 := nI 3) (p1 := nI 0) (p2 := nI m) hE ?_))
  exact br_c (fun _ => hp _ _) (fun _ => hp _ _)
theorem xo_sum {post : SX → Prop} {m : Nat} (A : re_A cs n 0 L K P N Lv S O B) (XT : re_X n K P N Lv S O B a_kinds a_operands a_parents a_places a_children a_levels a_nests a_scopes a_nodeLambdas a_lambdaNodes) (hm : m < n) (k : K m = 4 ∨ K m = 5) (i j : Int32) (hw : w + 1 < 294) (H : xr_P (tr_lc K) N nn c (s, f, F, R, w + 2, am_pw (am_pw W w (.inl i)) (w + 1) (.inl j)) f_callCount f_closureCount a_closureLambdas a_closureValues f_frame a_frameReturns a_frameValues f_waitingCount a_waiting) (hp : ∀ wc wt, xr_P (tr_lc K) N nn c (s, f, F, R, w + 1, am_pw W w (.inl (if K m = 4 then i + j else i - j))) f_callCount f_closureCount a_closureLambdas a_closureValues f_frame a_frameReturns a_frameValues wc wt → post (f_cellLimit, f_callLimit, f_closureLimit, f_nodes, f_holes, f_lambdas, f_stageReached, f_grown, f_codeLength, f_runningEngine, f_ending, f_callCount, f_closureCount, f_frame, wc, a_kinds, a_operands, a_parents, a_places, a_children, a_levels, a_nests, a_scopes, a_nodeLambdas, a_lambdaNodes, a_liveNodes, a_nodeFlows, a_paramFlows, a_codeOps, a_codeNodes, a_codeTargets, a_branchSpots, a_entries, a_frameReturns, a_frameValues, a_closureLambdas, a_closureValues, wt, a_records, a_calledSets)) : wpX_combine post (f_cellLimit, f_callLimit, f_closureLimit, f_nodes, f_holes, f_lambdas, f_stageReached, f_grown, f_codeLength, f_runningEngine, f_ending, f_callCount, f_closureCount, f_frame, f_waitingCount, a_kinds, a_operands, a_parents, a_places, a_children, a_levels, a_nests, a_scopes, a_nodeLambdas, a_lambdaNodes, a_liveNodes, a_nodeFlows, a_paramFlows, a_codeOps, a_codeNodes, a_codeTargets, a_branchSpots, a_entries, a_frameReturns, a_frameValues, a_closureLambdas, a_closureValues, a_waiting, a_records, a_calledSets) (nI m) := by
  have hn : n ≤ 48 := by have := A.2.2.1; have := A.2.2.2.1; omega
  obtain ⟨h6, h7, h8⟩ := xr_pop (w := w + 1) H
  obtain ⟨_, g7, g8⟩ := xr_pop (h8 _ rfl)
  subst h6
  unfold wpX_combine
  refine xo_pop (w := w + 1) (by omega) (xo_pop (w := w) (by omega) ?_)
  rw [h7, g7]
  refine xo_isN i (br_t rfl (xo_isN j (br_t rfl ⟨vp_in_nI (by omega) (by omega), ?_⟩)))
  rw [nI_clamp (by omega), XT.1 m hm]
  have e1 : (bi_enc (.inl i)).toInt32 = i := bi_i i
  have e2 : (bi_enc (.inl j)).toInt32 = j := bi_i j
  rw [e1, e2]
  by_cases q : K m = 4
  · rw [if_pos q] at hp
    refine br_t (by rw [q]; rfl) ?_
    unfold wX_combine_60
    exact xo_num (i + j) (by omega) (g8 _ rfl) hp
  · rw [if_neg q] at hp
    refine br_f (fun e => q ((nI_eq (b := 4) (by omega) (by decide)).mp e)) ?_
    unfold wX_combine_60
    exact xo_num (i - j) (by omega) (g8 _ rfl) hp
theorem xo_sumS {post : SX → Prop} {m : Nat} (hE : E < 2) (h64 : s.2.1 ≤ 64) {v x : ev_V} (hw : w + 1 < 294) (ov : ev_ok s.2.1 v) (ox : ev_ok s.2.1 x) (hs : (∃ k, v = .inr k) ∨ (∃ k, x = .inr k)) (H : xr_P (tr_lc K) N nn c (s, f, F, R, w + 2, am_pw (am_pw W w v) (w + 1) x) f_callCount f_closureCount a_closureLambdas a_closureValues f_frame a_frameReturns a_frameValues f_waitingCount a_waiting) (hp : ∀ wc, post (f_cellLimit, f_callLimit, f_closureLimit, f_nodes, f_holes, f_lambdas, f_stageReached, f_grown, f_codeLength, (nI E), (nI 3), (nI s.1), (nI s.2.1), f_frame, wc, a_kinds, a_operands, a_parents, a_places, a_children, a_levels, a_nests, a_scopes, a_nodeLambdas, a_lambdaNodes, a_liveNodes, a_nodeFlows, a_paramFlows, a_codeOps, a_codeNodes, a_codeTargets, a_branchSpots, a_entries, a_frameReturns, a_frameValues, a_closureLambdas, a_closureValues, a_waiting, (ru_r E a_records (nI 3) (nI 0) (nI m) (nI s.1) (nI s.2.1)), a_calledSets)) : wpX_combine post (f_cellLimit, f_callLimit, f_closureLimit, f_nodes, f_holes, f_lambdas, f_stageReached, f_grown, f_codeLength, (nI E), f_ending, f_callCount, f_closureCount, f_frame, f_waitingCount, a_kinds, a_operands, a_parents, a_places, a_children, a_levels, a_nests, a_scopes, a_nodeLambdas, a_lambdaNodes, a_liveNodes, a_nodeFlows, a_paramFlows, a_codeOps, a_codeNodes, a_codeTargets, a_branchSpots, a_entries, a_frameReturns, a_frameValues, a_closureLambdas, a_closureValues, a_waiting, a_records, a_calledSets) (nI m) := by
  obtain ⟨h6, h7, h8⟩ := xr_pop (w := w + 1) H
  obtain ⟨_, g7, g8⟩ := xr_pop (h8 _ rfl)
  have h1 : f_callCount = nI s.1 := H.1.1
  have h1b : f_closureCount = nI s.2.1 := H.1.2.1
  subst h6 h1 h1b
  unfold wpX_combine
  refine xo_pop (w := w + 1) (by omega) (xo_pop (w := w) (by omega) ?_)
  rw [h7, g7]
  have st : wX_combine_26 post (nI m) f_cellLimit f_callLimit f_closureLimit f_nodes f_holes f_lambdas f_stageReached f_grown f_codeLength (nI E) f_ending (nI s.1) (nI s.2.1) f_frame (nI w) a_kinds a_operands a_parents a_places a_children a_levels a_nests a_scopes a_nodeLambdas a_lambdaNodes a_liveNodes a_nodeFlows a_paramFlows a_codeOps a_codeNodes a_codeTargets a_branchSpots a_entries a_frameReturns a_frameValues a_closureLambdas a_closureValues a_waiting a_records a_calledSets := by
    unfold wX_combine_26
    exact xo_endRun (p0 := nI 3) (p1 := nI 0) (p2 := nI m) hE (hp _)
  rcases v with i | k
  · refine xo_isN i (br_t rfl ?_)
    rcases x with j | k
    · rcases hs with ⟨k, e⟩ | ⟨k, e⟩
      · cases e
      · cases e
    · have := ox k rfl
      exact xo_isC (by omega) (br_f (by decide) st)
  · have := ov k rfl
    exact xo_isC (by omega) (br_f (by decide) st)
theorem xo_appS {post : Int32 → SX → Prop} {m : Nat} {z : Int32} (hE : E < 2) (i : Int32) (x : ev_V) (hw : w + 1 < 294) (H : xr_P (tr_lc K) N nn c (s, f, F, R, w + 2, am_pw (am_pw W w (.inl i)) (w + 1) x) f_callCount f_closureCount a_closureLambdas a_closureValues f_frame a_frameReturns a_frameValues f_waitingCount a_waiting) (hp : ∀ wc, post (-1) (f_cellLimit, f_callLimit, f_closureLimit, f_nodes, f_holes, f_lambdas, f_stageReached, f_grown, f_codeLength, (nI E), (nI 3), (nI s.1), (nI s.2.1), f_frame, wc, a_kinds, a_operands, a_parents, a_places, a_children, a_levels, a_nests, a_scopes, a_nodeLambdas, a_lambdaNodes, a_liveNodes, a_nodeFlows, a_paramFlows, a_codeOps, a_codeNodes, a_codeTargets, a_branchSpots, a_entries, a_frameReturns, a_frameValues, a_closureLambdas, a_closureValues, a_waiting, (ru_r E a_records (nI 3) (nI 0) (nI m) (nI s.1) (nI s.2.1)), a_calledSets)) : wpX_enterCall post (f_cellLimit, f_callLimit, f_closureLimit, f_nodes, f_holes, f_lambdas, f_stageReached, f_grown, f_codeLength, (nI E), f_ending, f_callCount, f_closureCount, f_frame, f_waitingCount, a_kinds, a_operands, a_parents, a_places, a_children, a_levels, a_nests, a_scopes, a_nodeLambdas, a_lambdaNodes, a_liveNodes, a_nodeFlows, a_paramFlows, a_codeOps, a_codeNodes, a_codeTargets, a_branchSpots, a_entries, a_frameReturns, a_frameValues, a_closureLambdas, a_closureValues, a_waiting, a_records, a_calledSets) (nI m) z := by
  obtain ⟨h6, h7, h8⟩ := xr_pop (w := w + 1) H
  obtain ⟨_, g7, g8⟩ := xr_pop (h8 _ rfl)
  have h1 : f_callCount = nI s.1 := H.1.1
  have h1b : f_closureCount = nI s.2.1 := H.1.2.1
  subst h6 h1 h1b
  unfold wpX_enterCall
  refine xo_pop (w := w + 1) (by omega) (xo_pop (w := w) (by omega) ?_)
  rw [g7]
  exact xo_isN i (br_t rfl (xo_endRun (p0 := nI 3) (p1 := nI 0) (p2 := nI m) hE (hp _)))
theorem xo_appC {post : Int32 → SX → Prop} {m k : Nat} {z : Int32} (hE : E < 2) (h64 : s.2.1 ≤ 64) (hk : k < s.2.1) (hc : s.1 = cl) (x : ev_V) (hw : w + 1 < 294) (H : xr_P (tr_lc K) N nn c (s, f, F, R, w + 2, am_pw (am_pw W w (.inr k)) (w + 1) x) f_callCount f_closureCount a_closureLambdas a_closureValues f_frame a_frameReturns a_frameValues f_waitingCount a_waiting) (hp : ∀ wc, post (-1) (f_cellLimit, (nI cl), f_closureLimit, f_nodes, f_holes, f_lambdas, f_stageReached, f_grown, f_codeLength, (nI E), (nI 4), (nI s.1), (nI s.2.1), f_frame, wc, a_kinds, a_operands, a_parents, a_places, a_children, a_levels, a_nests, a_scopes, a_nodeLambdas, a_lambdaNodes, a_liveNodes, a_nodeFlows, a_paramFlows, a_codeOps, a_codeNodes, a_codeTargets, a_branchSpots, a_entries, a_frameReturns, a_frameValues, a_closureLambdas, a_closureValues, a_waiting, (ru_r E a_records (nI 4) (nI 0) (nI m) (nI s.1) (nI s.2.1)), a_calledSets)) : wpX_enterCall post (f_cellLimit, (nI cl), f_closureLimit, f_nodes, f_holes, f_lambdas, f_stageReached, f_grown, f_codeLength, (nI E), f_ending, f_callCount, f_closureCount, f_frame, f_waitingCount, a_kinds, a_operands, a_parents, a_places, a_children, a_levels, a_nests, a_scopes, a_nodeLambdas, a_lambdaNodes, a_liveNodes, a_nodeFlows, a_paramFlows, a_codeOps, a_codeNodes, a_codeTargets, a_branchSpots, a_entries, a_frameReturns, a_frameValues, a_closureLambdas, a_closureValues, a_waiting, a_records, a_calledSets) (nI m) z := by
  obtain ⟨h6, h7, h8⟩ := xr_pop (w := w + 1) H
  obtain ⟨_, g7, g8⟩ := xr_pop (h8 _ rfl)
  have h1 : f_callCount = nI s.1 := H.1.1
  have h1b : f_closureCount = nI s.2.1 := H.1.2.1
  subst h6 h1 h1b
  unfold wpX_enterCall
  refine xo_pop (w := w + 1) (by omega) (xo_pop (w := w) (by omega) ?_)
  rw [g7]
  exact xo_isC (by omega) (br_f (by decide) (br_t (by rw [hc]) (xo_endRun (p0 := nI 4) (p1 := nI 0) (p2 := nI m) hE (hp _))))
theorem xo_app {post : Int32 → SX → Prop} {m k z : Nat} (A : re_A cs n 0 L K P N Lv S O B) (XT : re_X n K P N Lv S O B a_kinds a_operands a_parents a_places a_children a_levels a_nests a_scopes a_nodeLambdas a_lambdaNodes) (hE : E < 2) (hcl : cl ≤ 48) (h64 : cm ≤ 64) (hm : m < n) (hf : f < 48) (Wf : ev_W K N n cl cm s) (hk : k < s.2.1) (hc : s.1 ≠ cl) (x : ev_V) (hw : w + 1 < 294) (hz : nn z = nn c) (H : xr_P (tr_lc K) N nn c (s, f, F, R, w + 2, am_pw (am_pw W w (.inr k)) (w + 1) x) f_callCount f_closureCount a_closureLambdas a_closureValues f_frame a_frameReturns a_frameValues f_waitingCount a_waiting)
    (hp : ∀ ca fr wc ret fv, (∀ c', nn c' = N (s.2.2.1 k) + 1 → xr_P (tr_lc K) N nn c' (ev_call (ru_m K) m k s, f + 1, am_pf F (f + 1) (ev_env N k x s), tr_put R (f + 1) z, w, W) ca f_closureCount a_closureLambdas a_closureValues fr ret fv wc a_waiting) → post (nI (tr_lc K (s.2.2.1 k))) (f_cellLimit, (nI cl), f_closureLimit, f_nodes, f_holes, f_lambdas, f_stageReached, f_grown, f_codeLength, (nI E), f_ending, ca, f_closureCount, fr, wc, a_kinds, a_operands, a_parents, a_places, a_children, a_levels, a_nests, a_scopes, a_nodeLambdas, a_lambdaNodes, a_liveNodes, a_nodeFlows, a_paramFlows, a_codeOps, a_codeNodes, a_codeTargets, a_branchSpots, a_entries, ret, fv, a_closureLambdas, a_closureValues, a_waiting, a_records, (re_cs E old (ev_call (ru_m K) m k s).2.2.2.2))) : wpX_enterCall post (f_cellLimit, (nI cl), f_closureLimit, f_nodes, f_holes, f_lambdas, f_stageReached, f_grown, f_codeLength, (nI E), f_ending, f_callCount, f_closureCount, f_frame, f_waitingCount, a_kinds, a_operands, a_parents, a_places, a_children, a_levels, a_nests, a_scopes, a_nodeLambdas, a_lambdaNodes, a_liveNodes, a_nodeFlows, a_paramFlows, a_codeOps, a_codeNodes, a_codeTargets, a_branchSpots, a_entries, a_frameReturns, a_frameValues, a_closureLambdas, a_closureValues, a_waiting, a_records, (re_cs E old s.2.2.2.2)) (nI m) (nI z) := by
  have hn : n ≤ 48 := by have := A.2.2.1; have := A.2.2.2.1; omega
  have hL : L ≤ 16 := A.2.2.2.2.2.1
  have hLn := A.2.2.2.2.1
  obtain ⟨h6, h7, h8⟩ := xr_pop (w := w + 1) H
  obtain ⟨_, g7, g8⟩ := xr_pop (h8 _ rfl)
  have G := g8 _ rfl
  have h1 : f_callCount = nI s.1 := H.1.1
  have h1b : f_closureCount = nI s.2.1 := H.1.2.1
  have h2 : f_frame = nI f := H.2.1
  subst h6 h1 h1b h2
  have hs1 := Wf.1
  have hs2 := Wf.2.1
  obtain ⟨p1, p2, p3⟩ := Wf.2.2 k hk
  have D := A.2.2.2.2.2.2.2.2.2.1 _ p1
  have hN4 := D.2.2.1 p2
  have lp := tr_lc_lt p1 p2
  have cll : a_closureLambdas k = nI (tr_lc K (s.2.2.1 k)) := (H.1.2.2 k hk).1
  have lnn := XT.2.2.2.2.2.2.2.2 _ p1 p2
  have nst := (XT.2.2.2.2.2.2.1 _ p1).2.1
  unfold wpX_enterCall
  refine xo_pop (w := w + 1) (by omega) (xo_pop (w := w) (by omega) ?_)
  rw [h7, g7]
  refine xo_isC (by omega) (br_f (by decide) (br_f (fun e => hc ((nI_eq (by omega) (by omega)).mp e)) (nm_r (nI_1 s.1) (nm_r (nI_1 f) ⟨vp_in_nI (by omega) (by omega), ?_⟩))))
  have ek : (bi_enc (.inr k)).toInt32 = nI k := (bi_k k (by omega)).1
  rw [ek, nI_clamp (n := f + 1) (by omega), nI_clamp (n := k) (by omega), cll, ru_48, nI_clamp (n := E * 48 + m) (by omega)]
  refine nm_e ⟨vp_in_nI (by omega) (by omega), nm_e ⟨vp_in_nI (by omega) (by omega), vp_in_nI (by omega) (by omega), ?_⟩⟩
  rw [re_cs_at E old _ (show m < 48 by omega), re_cs_put E old _ (show m < 48 by omega)]
  refine nm_e ⟨vp_in_nI (by omega) (by omega), ?_⟩
  rw [nI_clamp (n := tr_lc K (s.2.2.1 k)) (by omega), lnn, nI_clamp (n := s.2.2.1 k) (by omega)]
  refine ⟨vp_in_nI (by omega) (by omega), nm_r nst ⟨N (s.2.2.1 k) + 1, ?_⟩⟩
  have go : ∀ d i f' fv, i + d = N (s.2.2.1 k) → d < f' → (∀ j, j < i → fv ((f + 1) * 5 + j) = a_closureValues (k * 5 + j)) → (∀ j, j < (f + 1) * 5 → fv j = a_frameValues j) → wX_enterCall_130 post (bi_enc x) (nI k) (nI (tr_lc K (s.2.2.1 k))) (nI (N (s.2.2.1 k))) f_cellLimit (nI cl) f_closureLimit f_nodes f_holes f_lambdas f_stageReached f_grown f_codeLength (nI E) f_ending (nI (s.1 + 1)) (nI s.2.1) (nI (f + 1)) (nI w) f' (nI i) a_kinds a_operands a_parents a_places a_children a_levels a_nests a_scopes a_nodeLambdas a_lambdaNodes a_liveNodes a_nodeFlows a_paramFlows a_codeOps a_codeNodes a_codeTargets a_branchSpots a_entries (upd a_frameReturns (f + 1) (nI z)) fv a_closureLambdas a_closureValues a_waiting a_records (re_cs E old (ev_call (ru_m K) m k s).2.2.2.2) := by
    intro d
    induction d with
    | zero =>
      intro i f' fv hi hf' g1 g2
      obtain ⟨f', rfl⟩ : ∃ f'', f' = f'' + 1 := ⟨f' - 1, by omega⟩
      have e : i = N (s.2.2.1 k) := by omega
      subst e
      refine br_t (nI_le (Nat.le_refl _) (by omega)) ?_
      rw [ru_5, nI_clamp (n := (f + 1) * 5 + N (s.2.2.1 k)) (by omega)]
      refine ⟨vp_in_nI (by omega) (by omega), nm_e (hp _ _ _ _ _ (fun c' hc' => ?_))⟩
      refine xr_call (z := z) (x := x) G hk hN4 hc' hz rfl rfl re_us (fun j hj => re_un (by omega)) (fun j hj => ?_) xr_us (fun j hj => ?_)
      · rw [xr_un (by omega)]; exact g1 j hj
      · rw [xr_un (by omega)]; exact g2 j hj
    | succ d ih =>
      intro i f' fv hi hf' g1 g2
      obtain ⟨f', rfl⟩ : ∃ f'', f' = f'' + 1 := ⟨f' - 1, by omega⟩
      refine br_f (nI_ge (by omega) (by omega)) ?_
      rw [ru_5, ru_5, nI_clamp (n := k * 5 + i) (by omega), nI_clamp (n := (f + 1) * 5 + i) (by omega)]
      refine ⟨vp_in_nI (by omega) (by omega), vp_in_nI (by omega) (by omega), nm_e (nm_r (nI_1 i) ?_)⟩
      refine ih (i + 1) f' _ (by omega) (by omega) (fun j hj => ?_) (fun j hj => ?_)
      · by_cases e : j = i
        · rw [e, xr_us]
        · rw [xr_un (by omega)]; exact g1 j (by omega)
      · rw [xr_un (by omega)]; exact g2 j hj
  exact go (N (s.2.2.1 k)) 0 (N (s.2.2.1 k) + 1) a_frameValues (by omega) (by omega) (fun j hj => absurd hj (Nat.not_lt_zero j)) (fun _ _ => rfl)
theorem xo_ret {post : Int32 → SX → Prop} {z : Nat} {g : Nat → ev_V} (hf : f < 48) (H : xr_P (tr_lc K) N nn c (s, f + 1, am_pf F (f + 1) g, tr_put R (f + 1) z, w, W) f_callCount f_closureCount a_closureLambdas a_closureValues f_frame a_frameReturns a_frameValues f_waitingCount a_waiting) (hp : ∀ fr, xr_P (tr_lc K) N nn z (s, f, F, R, w, W) f_callCount f_closureCount a_closureLambdas a_closureValues fr a_frameReturns a_frameValues f_waitingCount a_waiting → post (nI z) (f_cellLimit, f_callLimit, f_closureLimit, f_nodes, f_holes, f_lambdas, f_stageReached, f_grown, f_codeLength, f_runningEngine, f_ending, f_callCount, f_closureCount, fr, f_waitingCount, a_kinds, a_operands, a_parents, a_places, a_children, a_levels, a_nests, a_scopes, a_nodeLambdas, a_lambdaNodes, a_liveNodes, a_nodeFlows, a_paramFlows, a_codeOps, a_codeNodes, a_codeTargets, a_branchSpots, a_entries, a_frameReturns, a_frameValues, a_closureLambdas, a_closureValues, a_waiting, a_records, a_calledSets)) : wpX_leaveCall post (f_cellLimit, f_callLimit, f_closureLimit, f_nodes, f_holes, f_lambdas, f_stageReached, f_grown, f_codeLength, f_runningEngine, f_ending, f_callCount, f_closureCount, f_frame, f_waitingCount, a_kinds, a_operands, a_parents, a_places, a_children, a_levels, a_nests, a_scopes, a_nodeLambdas, a_lambdaNodes, a_liveNodes, a_nodeFlows, a_paramFlows, a_codeOps, a_codeNodes, a_codeTargets, a_branchSpots, a_entries, a_frameReturns, a_frameValues, a_closureLambdas, a_closureValues, a_waiting, a_records, a_calledSets) := by
  obtain ⟨h2, h3, h4⟩ := xr_ret H
  subst h2
  refine nm_r (nI_pred f) ?_
  rw [nI_1, nI_clamp (by omega), h3]
  exact ⟨vp_in_nI (by omega) (by omega), hp _ (h4 _ rfl)⟩
/-- the end with a value -/
def ru_a (v : ev_V) : Nat := match v with
  | .inl _ => 1
  | .inr _ => 2
def ru_b (K : Nat → Nat) (s : ev_S) (v : ev_V) : Int32 := match v with
  | .inl i => i
  | .inr k => nI (tr_lc K (s.2.2.1 k))
theorem xo_end {post : SX → Prop} (hE : E < 2) (h64 : s.2.1 ≤ 64) {v : ev_V} (hw : w < 294) (ov : ev_ok s.2.1 v) (H : xr_P (tr_lc K) N nn c (s, f, F, R, w + 1, am_pw W w v) f_callCount f_closureCount a_closureLambdas a_closureValues f_frame a_frameReturns a_frameValues f_waitingCount a_waiting) (hp : ∀ wc, post (f_cellLimit, f_callLimit, f_closureLimit, f_nodes, f_holes, f_lambdas, f_stageReached, f_grown, f_codeLength, (nI E), (nI (ru_a v)), (nI s.1), (nI s.2.1), f_frame, wc, a_kinds, a_operands, a_parents, a_places, a_children, a_levels, a_nests, a_scopes, a_nodeLambdas, a_lambdaNodes, a_liveNodes, a_nodeFlows, a_paramFlows, a_codeOps, a_codeNodes, a_codeTargets, a_branchSpots, a_entries, a_frameReturns, a_frameValues, a_closureLambdas, a_closureValues, a_waiting, (ru_r E a_records (nI (ru_a v)) (ru_b K s v) (-1) (nI s.1) (nI s.2.1)), a_calledSets)) : wpX_endWithValue post (f_cellLimit, f_callLimit, f_closureLimit, f_nodes, f_holes, f_lambdas, f_stageReached, f_grown, f_codeLength, (nI E), f_ending, f_callCount, f_closureCount, f_frame, f_waitingCount, a_kinds, a_operands, a_parents, a_places, a_children, a_levels, a_nests, a_scopes, a_nodeLambdas, a_lambdaNodes, a_liveNodes, a_nodeFlows, a_paramFlows, a_codeOps, a_codeNodes, a_codeTargets, a_branchSpots, a_entries, a_frameReturns, a_frameValues, a_closureLambdas, a_closureValues, a_waiting, a_records, a_calledSets) := by
  obtain ⟨h6, h7, h8⟩ := xr_pop H
  have h1 : f_callCount = nI s.1 := H.1.1
  have h1b : f_closureCount = nI s.2.1 := H.1.2.1
  subst h6 h1 h1b
  unfold wpX_endWithValue
  refine xo_pop hw ?_
  rw [h7]
  rcases v with i | k
  · refine xo_isN i (br_t rfl ?_)
    have e1 : (bi_enc (.inl i)).toInt32 = i := bi_i i
    rw [e1]
    exact xo_endRun (p0 := nI 1) hE (hp _)
  · have hk := ov k rfl
    refine xo_isC (by omega) (br_f (by decide) ?_)
    have ek : (bi_enc (.inr k)).toInt32 = nI k := (bi_k k (by omega)).1
    have cll : a_closureLambdas k = nI (tr_lc K (s.2.2.1 k)) := (H.1.2.2 k hk).1
    rw [ek, nI_clamp (by omega), cll]
    exact ⟨vp_in_nI (by omega) (by omega), xo_endRun (p0 := nI 2) hE (hp _)⟩
end
end
section
/-! ===== the class: the interpreter keeps the machine's rules ===== -/
def xi_n (c : Sum Nat Nat) : Nat := match c with
  | .inl m => m
  | .inr m => m
section
variable {f_cellLimit f_callLimit f_closureLimit f_nodes f_holes f_lambdas f_stageReached f_grown f_codeLength f_runningEngine f_ending f_callCount f_closureCount f_frame f_waitingCount : Int32} {a_kinds a_operands a_parents a_places a_children a_levels a_nests a_scopes a_nodeLambdas a_lambdaNodes a_liveNodes a_nodeFlows a_paramFlows a_codeOps a_codeNodes a_codeTargets a_branchSpots a_entries a_frameReturns a_closureLambdas a_records a_calledSets : Nat → Int32} {a_closureValues a_frameValues a_waiting : Nat → Int64}
variable {cs n L cl cm E : Nat} {K P N Lv S O B : Nat → Nat} {old : Nat → Int32}
theorem xi_R {post : SX → Prop} (A : re_A cs n 0 L K P N Lv S O B) (XT : re_X n K P N Lv S O B a_kinds a_operands a_parents a_places a_children a_levels a_nests a_scopes a_nodeLambdas a_lambdaNodes) (hE : E < 2) (hcl : cl ≤ 48) (h64 : cm ≤ 64) :
    am_R K (tr_e P n) N Lv (re_ix N O) a_operands (ru_m K) cl cm n
      (fun b c a => ∀ st f ca co cll clv fr ret fv wc wt, st + b < 1000000 → b < f → xr_P (tr_lc K) N N (xi_n c) a ca co cll clv fr ret fv wc wt → wX_interpret_4 post f (xe_c c) (nI st) f_cellLimit (nI cl) (nI cm) f_nodes f_holes f_lambdas f_stageReached f_grown f_codeLength (nI E) (nI 0) ca co fr wc a_kinds a_operands a_parents a_places a_children a_levels a_nests a_scopes a_nodeLambdas a_lambdaNodes a_liveNodes a_nodeFlows a_paramFlows a_codeOps a_codeNodes a_codeTargets a_branchSpots a_entries ret fv cll clv wt a_records (re_cs E old a.1.2.2.2.2))
      (fun x s => ∀ cll clv fr ret fv wc wt, post (f_cellLimit, (nI cl), (nI cm), f_nodes, f_holes, f_lambdas, f_stageReached, f_grown, f_codeLength, (nI E), (nI x.1), (nI s.1), (nI s.2.1), fr, wc, a_kinds, a_operands, a_parents, a_places, a_children, a_levels, a_nests, a_scopes, a_nodeLambdas, a_lambdaNodes, a_liveNodes, a_nodeFlows, a_paramFlows, a_codeOps, a_codeNodes, a_codeTargets, a_branchSpots, a_entries, ret, fv, cll, clv, wt, (ru_r E a_records (nI x.1) (nI 0) (nI x.2) (nI s.1) (nI s.2.1)), (re_cs E old s.2.2.2.2))) := by
  have hn : n ≤ 48 := by have := A.2.2.1; have := A.2.2.2.1; omega
  obtain ⟨_, F0⟩ := re_full A
  have C : tr_C K (tr_e P n) N n := tr_C_of A.1 F0 A.2.2.2.2.2.2.1
  have D := A.2.2.2.2.2.2.2.2.2.1
  have lim : ∀ {s : Nat}, s < 1000000 → ¬ (1000000 : Int32) ≤ nI s := fun h => nI_ge (b := 1000000) h (by decide)
  have ng : ∀ {m : Nat}, m < n → (nI m ^^^ (-1)) < 0 := fun {m} hm => (xe_n m (by omega)).1
  have bk : ∀ {m : Nat}, m < n → (xe_c (.inr m) ^^^ (-1)) = nI m := fun {m} hm => (xe_n m (by omega)).2
  have c64 : ∀ {s : ev_S}, ev_W K N n cl cm s → s.2.1 ≤ 64 := fun Wf => by have := Wf.2.1; omega
  -- after an end
  have fin : ∀ {f st : Nat} {r : Int32} {x : Nat × Nat} {s : ev_S} {cll clv fr ret fv wc wt}, (x.1 = 3 ∨ x.1 = 4 ∨ x.1 = 5) → 0 < f → st < 1000000 → post (f_cellLimit, (nI cl), (nI cm), f_nodes, f_holes, f_lambdas, f_stageReached, f_grown, f_codeLength, (nI E), (nI x.1), (nI s.1), (nI s.2.1), fr, wc, a_kinds, a_operands, a_parents, a_places, a_children, a_levels, a_nests, a_scopes, a_nodeLambdas, a_lambdaNodes, a_liveNodes, a_nodeFlows, a_paramFlows, a_codeOps, a_codeNodes, a_codeTargets, a_branchSpots, a_entries, ret, fv, cll, clv, wt, (ru_r E a_records (nI x.1) (nI 0) (nI x.2) (nI s.1) (nI s.2.1)), (re_cs E old s.2.2.2.2)) → wX_interpret_4 post f r (nI st) f_cellLimit (nI cl) (nI cm) f_nodes f_holes f_lambdas f_stageReached f_grown f_codeLength (nI E) (nI x.1) (nI s.1) (nI s.2.1) fr wc a_kinds a_operands a_parents a_places a_children a_levels a_nests a_scopes a_nodeLambdas a_lambdaNodes a_liveNodes a_nodeFlows a_paramFlows a_codeOps a_codeNodes a_codeTargets a_branchSpots a_entries ret fv cll clv wt (ru_r E a_records (nI x.1) (nI 0) (nI x.2) (nI s.1) (nI s.2.1)) (re_cs E old s.2.2.2.2) := by
    intro f st r x s cll clv fr ret fv wc wt hx hf hs hp
    obtain ⟨f, rfl⟩ : ∃ f', f = f' + 1 := ⟨f - 1, by omega⟩
    have ne : ¬ nI x.1 = 0 := nI_ne0 (by omega) (by omega)
    exact br_f (lim hs) (br_f ne hp)
  -- behind node c whose parent is m
  refine ⟨?_, ?_, ?_, ?_, ?_, ?_, ?_, ?_, ?_, ?_, ?_, ?_, ?_, ?_, ?_, ?_⟩
  · intro b d c a H st f ca co cll clv fr ret fv wc wt h1 h2 hr
    exact H st f ca co cll clv fr ret fv wc wt (by omega) (by omega) hr
  · intro b m s fr' F R w W hm k hf hw H st f ca co cll clv fr ret fv wc wt h1 h2 hr
    obtain ⟨f, rfl⟩ : ∃ f', f = f' + 1 := ⟨f - 1, by omega⟩
    refine br_f (lim (by omega)) (br_t rfl (br_f (nI_pos (by omega)) ⟨vp_in_nI (by omega) (by omega), ?_⟩))
    have e : a_kinds (xe_c (.inl m)).toNatClampNeg = nI 0 := by
      show a_kinds (nI m).toNatClampNeg = _
      rw [nI_clamp (by omega), XT.1 m hm, k]
    refine nm_r e (br_f (by decide) (br_f (by decide) (br_t rfl ?_)))
    refine xo_var (nn := N) A XT hm k hf hw rfl hr (fun wc' wt' hr' => nm_r (nI_1 st) ?_)
    exact H (st + 1) f _ _ _ _ _ _ _ _ _ (by omega) (by omega) hr'
  · intro b m s fr' F R w W hm k hf hw H st f ca co cll clv fr ret fv wc wt h1 h2 hr
    obtain ⟨f, rfl⟩ : ∃ f', f = f' + 1 := ⟨f - 1, by omega⟩
    have v : vp_in (nI m) 48 := vp_in_nI (by omega) (by omega)
    refine br_f (lim (by omega)) (br_t rfl (br_f (nI_pos (by omega)) ⟨v, ?_⟩))
    have e : a_kinds (xe_c (.inl m)).toNatClampNeg = nI 1 := by
      show a_kinds (nI m).toNatClampNeg = _
      rw [nI_clamp (by omega), XT.1 m hm, k]
    have eo : a_operands (xe_c (.inl m)).toNatClampNeg = a_operands m := by
      show a_operands (nI m).toNatClampNeg = _
      rw [nI_clamp (by omega)]
    rw [eo]
    refine nm_r e (br_f (by decide) (br_f (by decide) (br_f (by decide) (br_t rfl ⟨v, ?_⟩))))
    refine xo_num (nn := N) (a_operands m) hw hr (fun wc' wt' hr' => nm_r (nI_1 st) ?_)
    exact H (st + 1) f _ _ _ _ _ _ _ _ _ (by omega) (by omega) hr'
  · intro b m s fr' F R w W hm k hf hw hc J st f ca co cll clv fr ret fv wc wt h1 h2 hr
    obtain ⟨f, rfl⟩ : ∃ f', f = f' + 1 := ⟨f - 1, by omega⟩
    refine br_f (lim (by omega)) (br_t rfl (br_f (nI_pos (by omega)) ⟨vp_in_nI (by omega) (by omega), ?_⟩))
    have e : a_kinds (xe_c (.inl m)).toNatClampNeg = nI 2 := by
      show a_kinds (nI m).toNatClampNeg = _
      rw [nI_clamp (by omega), XT.1 m hm, k]
    refine nm_r e (br_f (by decide) (br_f (by decide) (br_f (by decide) (br_f (by decide) (br_t rfl ?_)))))
    refine xo_lamF (m := m) hE h64 hc hr (nm_r (nI_1 st) ?_)
    exact fin (x := (5, m)) (Or.inr (Or.inr rfl)) (by omega) (by omega) (J _ _ _ _ _ _ _)
  · intro b m s fr' F R w W hm k hf hw Wf hc H st f ca co cll clv fr ret fv wc wt h1 h2 hr
    obtain ⟨f, rfl⟩ : ∃ f', f = f' + 1 := ⟨f - 1, by omega⟩
    refine br_f (lim (by omega)) (br_t rfl (br_f (nI_pos (by omega)) ⟨vp_in_nI (by omega) (by omega), ?_⟩))
    have e : a_kinds (xe_c (.inl m)).toNatClampNeg = nI 2 := by
      show a_kinds (nI m).toNatClampNeg = _
      rw [nI_clamp (by omega), XT.1 m hm, k]
    refine nm_r e (br_f (by decide) (br_f (by decide) (br_f (by decide) (br_f (by decide) (br_t rfl ?_)))))
    refine xo_lam (nn := N) A XT hm k hf hw h64 Wf hc rfl hr (fun co' cll' clv' wc' wt' hr' => nm_r (nI_1 st) ?_)
    exact H (st + 1) f _ _ _ _ _ _ _ _ _ (by omega) (by omega) hr'
  · intro b m s fr' F R w W hm k H st f ca co cll clv fr ret fv wc wt h1 h2 hr
    obtain ⟨f, rfl⟩ : ∃ f', f = f' + 1 := ⟨f - 1, by omega⟩
    obtain ⟨r1, r2, r3, r4⟩ := re_kid0 A XT hm (by omega)
    have k6 := (D m hm).1
    refine br_f (lim (by omega)) (br_t rfl (br_f (nI_pos (by omega)) ⟨vp_in_nI (by omega) (by omega), ?_⟩))
    have e : a_kinds (xe_c (.inl m)).toNatClampNeg = nI (K m) := by
      show a_kinds (nI m).toNatClampNeg = _
      rw [nI_clamp (by omega), XT.1 m hm]
    refine nm_r e (br_f (nI_pos (by omega)) (br_t (nI_lt (a := 2) (by omega) (by omega)) (xx_childAt (p := m) (k := 0) (by omega) (by omega) ?_)))
    rw [r2]
    exact nm_r (nI_1 st) (H (st + 1) f _ _ _ _ _ _ _ _ _ (by omega) (by omega) (xr_ctl hr ((C m hm).2 k).1))
  · intro b m s fr' F R w W hm k k6 H st f ca co cll clv fr ret fv wc wt h1 h2 hr
    obtain ⟨f, rfl⟩ : ∃ f', f = f' + 1 := ⟨f - 1, by omega⟩
    obtain ⟨r1, r2, r3, r4⟩ := re_kid0 A XT hm (by omega)
    obtain ⟨s1, s2, s3, s4⟩ := re_kid1 A XT hm (by omega)
    have k6' := (D m hm).1
    have v : vp_in (nI (m + 1)) 48 := vp_in_nI (by omega) (by omega)
    have hc := nI_clamp (n := m + 1) (by omega)
    refine br_f (lim (by omega)) (br_t rfl (br_t (ng r1) ?_))
    rw [bk r1]
    refine ⟨v, ?_⟩
    rw [hc]
    refine nm_r r3 (br_t (nI_pos' (by omega)) ⟨vp_in_nI (by omega) (by omega), ?_⟩)
    rw [nI_clamp (n := m) (by omega), r4]
    have nx : wX_interpret_4 post f (nI (tr_e P n (m + 1))) (nI (st + 1)) _ _ _ _ _ _ _ _ _ _ _ _ _ _ _ _ _ _ _ _ _ _ _ _ _ _ _ _ _ _ _ _ _ _ _ _ _ _ _ _ := H (st + 1) f _ _ _ _ _ _ _ _ _ (by omega) (by omega) (xr_ctl hr (((C m hm).2 k).2.1.trans ((C m hm).2 k).1.symm))
    have kid : ∀ {post' : Int32 → Prop}, post' (nI (tr_e P n (m + 1))) → wpX_childAt post' (f_cellLimit, (nI cl), (nI cm), f_nodes, f_holes, f_lambdas, f_stageReached, f_grown, f_codeLength, (nI E), (nI 0), ca, co, fr, wc, a_kinds, a_operands, a_parents, a_places, a_children, a_levels, a_nests, a_scopes, a_nodeLambdas, a_lambdaNodes, a_liveNodes, a_nodeFlows, a_paramFlows, a_codeOps, a_codeNodes, a_codeTargets, a_branchSpots, a_entries, ret, fv, cll, clv, wt, a_records, (re_cs E old s.2.2.2.2)) (nI m) (nI 1) := fun hp => xx_childAt (by omega) (by omega) (by rw [s2]; exact hp)
    have hc3 : K m = 3 ∨ K m = 4 ∨ K m = 5 := by omega
    refine nm_r (XT.1 m hm) ?_
    rcases hc3 with q | q | q
    · rw [q]
      exact br_f (by decide) (br_f (by decide) (br_f (by decide) (br_t rfl ⟨v, br_t rfl (kid (nm_r (nI_1 st) nx))⟩)))
    · rw [q]
      refine br_f (by decide) (br_f (by decide) (br_f (by decide) (br_f (by decide) (br_t rfl ⟨v, ?_⟩))))
      rw [hc, r4]
      exact br_t rfl (kid (nm_r (nI_1 st) nx))
    · rw [q]
      refine br_f (by decide) (br_f (by decide) (br_f (by decide) (br_f (by decide) (br_f (by decide) (br_t rfl ⟨v, ?_⟩)))))
      rw [hc, r4]
      exact br_t rfl (kid (nm_r (nI_1 st) nx))
  · -- IF0 on a closure
    intro b m s fr' F R w W k hm k6 hw Wf hk J st f ca co cll clv fr ret fv wc wt h1 h2 hr
    obtain ⟨f, rfl⟩ : ∃ f', f = f' + 1 := ⟨f - 1, by omega⟩
    obtain ⟨r1, r2, r3, r4⟩ := re_kid0 A XT hm (by omega)
    obtain ⟨s1, s2, s3, s4⟩ := re_kid1 A XT hm (by omega)
    obtain ⟨w1, w2, w3, w4⟩ := re_kid2 A XT hm k6
    have v : vp_in (nI (m + 1)) 48 := vp_in_nI (by omega) (by omega)
    have hc := nI_clamp (n := m + 1) (by omega)
    have := c64 Wf
    refine br_f (lim (by omega)) (br_t rfl (br_t (ng r1) ?_))
    rw [bk r1]
    refine ⟨v, ?_⟩
    rw [hc]
    refine nm_r r3 (br_t (nI_pos' (by omega)) ⟨vp_in_nI (by omega) (by omega), ?_⟩)
    rw [nI_clamp (n := m) (by omega), r4]
    refine nm_r (XT.1 m hm) ?_
    rw [k6]
    refine br_f (by decide) (br_f (by decide) (br_f (by decide) (br_f (by decide) (br_f (by decide) (br_f (by decide) (br_t rfl ⟨v, br_t rfl ?_⟩))))))
    unfold wpX_beginBranch
    refine xx_childAt (k := 1) (by omega) (by omega) ?_
    rw [s2]
    refine xx_childAt (k := 2) (by omega) (by omega) ?_
    rw [w2]
    refine xo_ifS hE hw (by omega) hr (fun r wc' => nm_r (nI_1 st) ?_)
    exact fin (x := (3, m)) (Or.inl rfl) (by omega) (by omega) (J _ _ _ _ _ _ _)
  · -- IF0 on a number
    intro b m s fr' F R w W i hm k6 hw H st f ca co cll clv fr ret fv wc wt h1 h2 hr
    obtain ⟨f, rfl⟩ : ∃ f', f = f' + 1 := ⟨f - 1, by omega⟩
    obtain ⟨r1, r2, r3, r4⟩ := re_kid0 A XT hm (by omega)
    obtain ⟨s1, s2, s3, s4⟩ := re_kid1 A XT hm (by omega)
    obtain ⟨w1, w2, w3, w4⟩ := re_kid2 A XT hm k6
    have v : vp_in (nI (m + 1)) 48 := vp_in_nI (by omega) (by omega)
    have hc := nI_clamp (n := m + 1) (by omega)
    refine br_f (lim (by omega)) (br_t rfl (br_t (ng r1) ?_))
    rw [bk r1]
    refine ⟨v, ?_⟩
    rw [hc]
    refine nm_r r3 (br_t (nI_pos' (by omega)) ⟨vp_in_nI (by omega) (by omega), ?_⟩)
    rw [nI_clamp (n := m) (by omega), r4]
    refine nm_r (XT.1 m hm) ?_
    rw [k6]
    refine br_f (by decide) (br_f (by decide) (br_f (by decide) (br_f (by decide) (br_f (by decide) (br_f (by decide) (br_t rfl ⟨v, br_t rfl ?_⟩))))))
    unfold wpX_beginBranch
    refine xx_childAt (k := 1) (by omega) (by omega) ?_
    rw [s2]
    refine xx_childAt (k := 2) (by omega) (by omega) ?_
    rw [w2]
    refine xo_if (nn := N) i hw hr (fun wc' hr' => nm_r (nI_1 st) ?_)
    obtain ⟨c1, c2, c3⟩ := (C m hm).2 (by omega)
    by_cases z : i = 0
    · rw [if_pos z] at H ⊢
      exact H (st + 1) f _ _ _ _ _ _ _ _ _ (by omega) (by omega) (xr_ctl hr' (c2.trans c1.symm))
    · rw [if_neg z] at H ⊢
      exact H (st + 1) f _ _ _ _ _ _ _ _ _ (by omega) (by omega) (xr_ctl hr' ((c3 k6).trans c1.symm))
  · -- behind a branch
    intro b m s fr' F R w W i hm k6 H st f ca co cll clv fr ret fv wc wt h1 h2 hr
    obtain ⟨f, rfl⟩ : ∃ f', f = f' + 1 := ⟨f - 1, by omega⟩
    obtain ⟨s1, s2, s3, s4⟩ := re_kid1 A XT hm (by omega)
    obtain ⟨w1, w2, w3, w4⟩ := re_kid2 A XT hm k6
    obtain ⟨c1, c2, c3⟩ := (C m hm).2 (by omega)
    have main : ∀ q pq, q < n → a_parents q = nI m → a_places q = nI pq → pq = 1 ∨ pq = 2 → N q = N m → xr_P (tr_lc K) N N q (s, fr', F, R, w, W) ca co cll clv fr ret fv wc wt → wX_interpret_4 post (f + 1) (xe_c (.inr q)) (nI st) f_cellLimit (nI cl) (nI cm) f_nodes f_holes f_lambdas f_stageReached f_grown f_codeLength (nI E) (nI 0) ca co fr wc a_kinds a_operands a_parents a_places a_children a_levels a_nests a_scopes a_nodeLambdas a_lambdaNodes a_liveNodes a_nodeFlows a_paramFlows a_codeOps a_codeNodes a_codeTargets a_branchSpots a_entries ret fv cll clv wt a_records (re_cs E old s.2.2.2.2) := fun q pq hq e1 e2 e3 e4 hr => by
      have v : vp_in (nI q) 48 := vp_in_nI (by omega) (by omega)
      have hc := nI_clamp (n := q) (by omega)
      refine br_f (lim (by omega)) (br_t rfl (br_t (ng hq) ?_))
      rw [bk hq]
      refine ⟨v, ?_⟩
      rw [hc]
      refine nm_r e1 (br_t (nI_pos' (by omega)) ⟨vp_in_nI (by omega) (by omega), ?_⟩)
      rw [nI_clamp (n := m) (by omega), e2]
      refine nm_r (XT.1 m hm) ?_
      rw [k6]
      refine br_f (by decide) (br_f (by decide) (br_f (by decide) (br_f (by decide) (br_f (by decide) (br_f (by decide) (br_t rfl ⟨v, br_f (nI_ne0 (by omega) (by omega)) (nm_r (nI_1 st) ?_)⟩))))))
      exact H (st + 1) f _ _ _ _ _ _ _ _ _ (by omega) (by omega) (xr_ctl hr e4.symm)
    by_cases z : i = 0
    · rw [if_pos z] at hr ⊢
      exact main _ 1 s1 s3 s4 (Or.inl rfl) c2 hr
    · rw [if_neg z] at hr ⊢
      exact main _ 2 w1 w3 w4 (Or.inr rfl) (c3 k6) hr
  · -- ADD, SUB
    intro b m s fr' F R w W i j hm k hw H st f ca co cll clv fr ret fv wc wt h1 h2 hr
    obtain ⟨f, rfl⟩ : ∃ f', f = f' + 1 := ⟨f - 1, by omega⟩
    obtain ⟨s1, s2, s3, s4⟩ := re_kid1 A XT hm (by omega)
    obtain ⟨c1, c2, c3⟩ := (C m hm).2 (by omega)
    have v : vp_in (nI (tr_e P n (m + 1))) 48 := vp_in_nI (by omega) (by omega)
    have hc := nI_clamp (n := tr_e P n (m + 1)) (by omega)
    refine br_f (lim (by omega)) (br_t rfl (br_t (ng s1) ?_))
    rw [bk s1]
    refine ⟨v, ?_⟩
    rw [hc]
    refine nm_r s3 (br_t (nI_pos' (by omega)) ⟨vp_in_nI (by omega) (by omega), ?_⟩)
    rw [nI_clamp (n := m) (by omega)]
    refine nm_r (XT.1 m hm) ?_
    have fin2 : ∀ {post' : Int32 → SX → Prop}, (∀ wc' wt', xr_P (tr_lc K) N N m (s, fr', F, R, w + 1, am_pw W w (.inl (if K m = 4 then i + j else i - j))) ca co cll clv fr ret fv wc' wt' → post' (nI m ^^^ (-1)) (f_cellLimit, (nI cl), (nI cm), f_nodes, f_holes, f_lambdas, f_stageReached, f_grown, f_codeLength, (nI E), (nI 0), ca, co, fr, wc', a_kinds, a_operands, a_parents, a_places, a_children, a_levels, a_nests, a_scopes, a_nodeLambdas, a_lambdaNodes, a_liveNodes, a_nodeFlows, a_paramFlows, a_codeOps, a_codeNodes, a_codeTargets, a_branchSpots, a_entries, ret, fv, cll, clv, wt', a_records, (re_cs E old s.2.2.2.2))) → wX_handOn_112 post' (nI (tr_e P n (m + 1))) (nI m) f_cellLimit (nI cl) (nI cm) f_nodes f_holes f_lambdas f_stageReached f_grown f_codeLength (nI E) (nI 0) ca co fr wc a_kinds a_operands a_parents a_places a_children a_levels a_nests a_scopes a_nodeLambdas a_lambdaNodes a_liveNodes a_nodeFlows a_paramFlows a_codeOps a_codeNodes a_codeTargets a_branchSpots a_entries ret fv cll clv wt a_records (re_cs E old s.2.2.2.2) := fun hp => by
      refine ⟨v, ?_⟩
      rw [hc, s4]
      refine br_f (by decide) (xo_sum (nn := N) A XT hm k i j hw hr (fun wc' wt' hr' => ?_))
      exact hp wc' wt' (xr_ctl hr' c2.symm)
    have nx := fun wc' wt' hr' => H (st + 1) f ca co cll clv fr ret fv wc' wt' (by omega) (by omega) hr'
    rcases k with q | q
    · rw [q]
      exact br_f (by decide) (br_f (by decide) (br_f (by decide) (br_f (by decide) (br_t rfl (fin2 (fun wc' wt' hr' => nm_r (nI_1 st) (nx wc' wt' hr')))))))
    · rw [q]
      exact br_f (by decide) (br_f (by decide) (br_f (by decide) (br_f (by decide) (br_f (by decide) (br_t rfl (fin2 (fun wc' wt' hr' => nm_r (nI_1 st) (nx wc' wt' hr'))))))))
  · -- ADD, SUB on a closure
    intro b m s fr' F R w W v' x hm k hw Wf ov ox hs J st f ca co cll clv fr ret fv wc wt h1 h2 hr
    obtain ⟨f, rfl⟩ : ∃ f', f = f' + 1 := ⟨f - 1, by omega⟩
    obtain ⟨s1, s2, s3, s4⟩ := re_kid1 A XT hm (by omega)
    have v : vp_in (nI (tr_e P n (m + 1))) 48 := vp_in_nI (by omega) (by omega)
    have hc := nI_clamp (n := tr_e P n (m + 1)) (by omega)
    refine br_f (lim (by omega)) (br_t rfl (br_t (ng s1) ?_))
    rw [bk s1]
    refine ⟨v, ?_⟩
    rw [hc]
    refine nm_r s3 (br_t (nI_pos' (by omega)) ⟨vp_in_nI (by omega) (by omega), ?_⟩)
    rw [nI_clamp (n := m) (by omega)]
    refine nm_r (XT.1 m hm) ?_
    have fin2 : ∀ {post' : Int32 → SX → Prop}, (∀ wc', post' (nI m ^^^ (-1)) (f_cellLimit, (nI cl), (nI cm), f_nodes, f_holes, f_lambdas, f_stageReached, f_grown, f_codeLength, (nI E), (nI 3), (nI s.1), (nI s.2.1), fr, wc', a_kinds, a_operands, a_parents, a_places, a_children, a_levels, a_nests, a_scopes, a_nodeLambdas, a_lambdaNodes, a_liveNodes, a_nodeFlows, a_paramFlows, a_codeOps, a_codeNodes, a_codeTargets, a_branchSpots, a_entries, ret, fv, cll, clv, wt, (ru_r E a_records (nI 3) (nI 0) (nI m) (nI s.1) (nI s.2.1)), (re_cs E old s.2.2.2.2))) → wX_handOn_112 post' (nI (tr_e P n (m + 1))) (nI m) f_cellLimit (nI cl) (nI cm) f_nodes f_holes f_lambdas f_stageReached f_grown f_codeLength (nI E) (nI 0) ca co fr wc a_kinds a_operands a_parents a_places a_children a_levels a_nests a_scopes a_nodeLambdas a_lambdaNodes a_liveNodes a_nodeFlows a_paramFlows a_codeOps a_codeNodes a_codeTargets a_branchSpots a_entries ret fv cll clv wt a_records (re_cs E old s.2.2.2.2) := fun hp => by
      refine ⟨v, ?_⟩
      rw [hc, s4]
      exact br_f (by decide) (xo_sumS hE (c64 Wf) hw ov ox hs hr (fun wc' => hp wc'))
    have nx := fun wc' => fin (f := f) (st := st + 1) (r := nI m ^^^ (-1)) (x := (3, m)) (s := s) (Or.inl rfl) (by omega) (by omega) (J cll clv fr ret fv wc' wt)
    rcases k with q | q
    · rw [q]
      exact br_f (by decide) (br_f (by decide) (br_f (by decide) (br_f (by decide) (br_t rfl (fin2 (fun wc' => nm_r (nI_1 st) (nx wc')))))))
    · rw [q]
      exact br_f (by decide) (br_f (by decide) (br_f (by decide) (br_f (by decide) (br_f (by decide) (br_t rfl (fin2 (fun wc' => nm_r (nI_1 st) (nx wc'))))))))
  · -- APP of a number
    intro b m s fr' F R w W i x hm k hw J st f ca co cll clv fr ret fv wc wt h1 h2 hr
    obtain ⟨f, rfl⟩ : ∃ f', f = f' + 1 := ⟨f - 1, by omega⟩
    obtain ⟨s1, s2, s3, s4⟩ := re_kid1 A XT hm (by omega)
    have v : vp_in (nI (tr_e P n (m + 1))) 48 := vp_in_nI (by omega) (by omega)
    have hc := nI_clamp (n := tr_e P n (m + 1)) (by omega)
    refine br_f (lim (by omega)) (br_t rfl (br_t (ng s1) ?_))
    rw [bk s1]
    refine ⟨v, ?_⟩
    rw [hc]
    refine nm_r s3 (br_t (nI_pos' (by omega)) ⟨vp_in_nI (by omega) (by omega), ?_⟩)
    rw [nI_clamp (n := m) (by omega), s4]
    refine nm_r (XT.1 m hm) ?_
    rw [k]
    refine br_f (by decide) (br_f (by decide) (br_f (by decide) (br_t rfl ⟨v, br_f (by decide) ?_⟩)))
    unfold wpX_beginBody
    refine xo_appS hE i x hw hr (fun wc' => br_f (by decide) (nm_r (nI_1 st) ?_))
    exact fin (x := (3, m)) (Or.inl rfl) (by omega) (by omega) (J _ _ _ _ _ _ _)
  · -- APP at the limit
    intro b m s fr' F R w W kk x hm k hw Wf hk hcl' J st f ca co cll clv fr ret fv wc wt h1 h2 hr
    obtain ⟨f, rfl⟩ : ∃ f', f = f' + 1 := ⟨f - 1, by omega⟩
    obtain ⟨s1, s2, s3, s4⟩ := re_kid1 A XT hm (by omega)
    have v : vp_in (nI (tr_e P n (m + 1))) 48 := vp_in_nI (by omega) (by omega)
    have hc := nI_clamp (n := tr_e P n (m + 1)) (by omega)
    refine br_f (lim (by omega)) (br_t rfl (br_t (ng s1) ?_))
    rw [bk s1]
    refine ⟨v, ?_⟩
    rw [hc]
    refine nm_r s3 (br_t (nI_pos' (by omega)) ⟨vp_in_nI (by omega) (by omega), ?_⟩)
    rw [nI_clamp (n := m) (by omega), s4]
    refine nm_r (XT.1 m hm) ?_
    rw [k]
    refine br_f (by decide) (br_f (by decide) (br_f (by decide) (br_t rfl ⟨v, br_f (by decide) ?_⟩)))
    unfold wpX_beginBody
    refine xo_appC hE (c64 Wf) hk hcl' x hw hr (fun wc' => br_f (by decide) (nm_r (nI_1 st) ?_))
    exact fin (x := (4, m)) (Or.inr (Or.inl rfl)) (by omega) (by omega) (J _ _ _ _ _ _ _)
  · -- APP
    intro b m s fr' F R w W kk x hm k hw hf Wf hk ox hcl' H st f ca co cll clv fr ret fv wc wt h1 h2 hr
    obtain ⟨f, rfl⟩ : ∃ f', f = f' + 1 := ⟨f - 1, by omega⟩
    obtain ⟨s1, s2, s3, s4⟩ := re_kid1 A XT hm (by omega)
    obtain ⟨c1, c2, c3⟩ := (C m hm).2 (by omega)
    have v : vp_in (nI (tr_e P n (m + 1))) 48 := vp_in_nI (by omega) (by omega)
    have hc := nI_clamp (n := tr_e P n (m + 1)) (by omega)
    obtain ⟨p1, p2, p3⟩ := Wf.2.2 kk hk
    obtain ⟨r1, r2, r3, r4⟩ := re_kid0 A XT p1 (by omega)
    have r2' : a_children (s.2.2.1 kk * 3) = nI (s.2.2.1 kk + 1) := r2
    have lp := tr_lc_lt p1 p2
    have hL : L ≤ 16 := A.2.2.2.2.2.1
    have hLn := A.2.2.2.2.1
    have lnn := XT.2.2.2.2.2.2.2.2 _ p1 p2
    refine br_f (lim (by omega)) (br_t rfl (br_t (ng s1) ?_))
    rw [bk s1]
    refine ⟨v, ?_⟩
    rw [hc]
    refine nm_r s3 (br_t (nI_pos' (by omega)) ⟨vp_in_nI (by omega) (by omega), ?_⟩)
    rw [nI_clamp (n := m) (by omega), s4]
    refine nm_r (XT.1 m hm) ?_
    rw [k]
    refine br_f (by decide) (br_f (by decide) (br_f (by decide) (br_t rfl ⟨v, br_f (by decide) ?_⟩)))
    unfold wpX_beginBody
    refine xo_app (nn := N) (z := m) (s := s) A XT hE hcl h64 hm hf Wf hk hcl' x hw c2.symm hr (fun ca' fr2 wc' ret' fv' hr' => br_t (nI_pos' (by omega)) (xx_bodyOf (by omega) (by omega) lnn ?_))
    rw [r2']
    refine nm_r (nI_1 st) ?_
    exact H (st + 1) f _ _ _ _ _ _ _ _ _ (by omega) (by omega) (hr' _ ((C _ p1).1 p2))
  · -- return
    intro b m s fr' F R w W p g hm hp kp hf H st f ca co cll clv fr ret fv wc wt h1 h2 hr
    obtain ⟨f, rfl⟩ : ∃ f', f = f' + 1 := ⟨f - 1, by omega⟩
    obtain ⟨r1, r2, r3, r4⟩ := re_kid0 A XT hp (by omega)
    have v : vp_in (nI (p + 1)) 48 := vp_in_nI (by omega) (by omega)
    have hc := nI_clamp (n := p + 1) (by omega)
    refine br_f (lim (by omega)) (br_t rfl (br_t (ng r1) ?_))
    rw [bk r1]
    refine ⟨v, ?_⟩
    rw [hc]
    refine nm_r r3 (br_t (nI_pos' (by omega)) ⟨vp_in_nI (by omega) (by omega), ?_⟩)
    rw [nI_clamp (n := p) (by omega)]
    refine nm_r (XT.1 p hp) ?_
    rw [kp]
    refine br_f (by decide) (br_f (by decide) (br_t rfl ?_))
    refine xo_ret (nn := N) (z := m) hf hr (fun fr2 hr' => nm_r (nI_1 st) ?_)
    exact H (st + 1) f _ _ _ _ _ _ _ _ _ (by omega) (by omega) hr'
end
end
section
/-! ===== the class: the compiled engine keeps the machine's rules ===== -/
section
variable {f_cellLimit f_callLimit f_closureLimit f_nodes f_holes f_lambdas f_stageReached f_grown f_codeLength f_runningEngine f_ending f_callCount f_closureCount f_frame f_waitingCount : Int32} {a_kinds a_operands a_parents a_places a_children a_levels a_nests a_scopes a_nodeLambdas a_lambdaNodes a_liveNodes a_nodeFlows a_paramFlows a_codeOps a_codeNodes a_codeTargets a_branchSpots a_entries a_frameReturns a_closureLambdas a_records a_calledSets : Nat → Int32} {a_closureValues a_frameValues a_waiting : Nat → Int64}
variable {cs n L cl cm cn E : Nat} {K P N Lv S O B oc nd tg en : Nat → Nat} {old : Nat → Int32}
theorem xc_R {post : SX → Prop} (A : re_A cs n 0 L K P N Lv S O B) (XT : re_X n K P N Lv S O B a_kinds a_operands a_parents a_places a_children a_levels a_nests a_scopes a_nodeLambdas a_lambdaNodes) (hE : E < 2) (hcl : cl ≤ 48) (h64 : cm ≤ 64) (hcn : cn ≤ 113) (hc9 : ∀ c, c < cn → cp_c K N oc nd tg n cn c) (hen : ∀ l, l < L → a_entries l = nI (en l)) :
    cm_R K (tr_e P n) N Lv (re_ix N O) en a_operands (ru_m K) (tr_lc K) oc nd tg cl cm n cn
      (fun b c a => ∀ st f ca co cll clv fr ret fv wc wt, st + b < 1000000 → b < f → xr_P (tr_lc K) N (fun c => N (nd c)) c a ca co cll clv fr ret fv wc wt → wX_execute_4 post f (nI c) (nI st) f_cellLimit (nI cl) (nI cm) f_nodes f_holes f_lambdas f_stageReached f_grown f_codeLength (nI E) (nI 0) ca co fr wc a_kinds a_operands a_parents a_places a_children a_levels a_nests a_scopes a_nodeLambdas a_lambdaNodes a_liveNodes a_nodeFlows a_paramFlows (rn_F oc) (rn_F nd) (rn_F tg) a_branchSpots a_entries ret fv cll clv wt a_records (re_cs E old a.1.2.2.2.2))
      (fun x s => ∀ cll clv fr ret fv wc wt, post (f_cellLimit, (nI cl), (nI cm), f_nodes, f_holes, f_lambdas, f_stageReached, f_grown, f_codeLength, (nI E), (nI x.1), (nI s.1), (nI s.2.1), fr, wc, a_kinds, a_operands, a_parents, a_places, a_children, a_levels, a_nests, a_scopes, a_nodeLambdas, a_lambdaNodes, a_liveNodes, a_nodeFlows, a_paramFlows, (rn_F oc), (rn_F nd), (rn_F tg), a_branchSpots, a_entries, ret, fv, cll, clv, wt, (ru_r E a_records (nI x.1) (nI 0) (nI x.2) (nI s.1) (nI s.2.1)), (re_cs E old s.2.2.2.2))) := by
  have hn : n ≤ 48 := by have := A.2.2.1; have := A.2.2.2.1; omega
  have hL : L ≤ 16 := A.2.2.2.2.2.1
  have hLn := A.2.2.2.2.1
  have lim : ∀ {s : Nat}, s < 1000000 → ¬ (1000000 : Int32) ≤ nI s := fun h => nI_ge (b := 1000000) h (by decide)
  have c64 : ∀ {s : ev_S}, ev_W K N n cl cm s → s.2.1 ≤ 64 := fun Wf => by have := Wf.2.1; omega
  have fin : ∀ {f st : Nat} {r : Int32} {x : Nat × Nat} {s : ev_S} {cll clv fr ret fv wc wt}, (x.1 = 3 ∨ x.1 = 4 ∨ x.1 = 5) → 0 < f → st < 1000000 → post (f_cellLimit, (nI cl), (nI cm), f_nodes, f_holes, f_lambdas, f_stageReached, f_grown, f_codeLength, (nI E), (nI x.1), (nI s.1), (nI s.2.1), fr, wc, a_kinds, a_operands, a_parents, a_places, a_children, a_levels, a_nests, a_scopes, a_nodeLambdas, a_lambdaNodes, a_liveNodes, a_nodeFlows, a_paramFlows, (rn_F oc), (rn_F nd), (rn_F tg), a_branchSpots, a_entries, ret, fv, cll, clv, wt, (ru_r E a_records (nI x.1) (nI 0) (nI x.2) (nI s.1) (nI s.2.1)), (re_cs E old s.2.2.2.2)) → wX_execute_4 post f r (nI st) f_cellLimit (nI cl) (nI cm) f_nodes f_holes f_lambdas f_stageReached f_grown f_codeLength (nI E) (nI x.1) (nI s.1) (nI s.2.1) fr wc a_kinds a_operands a_parents a_places a_children a_levels a_nests a_scopes a_nodeLambdas a_lambdaNodes a_liveNodes a_nodeFlows a_paramFlows (rn_F oc) (rn_F nd) (rn_F tg) a_branchSpots a_entries ret fv cll clv wt (ru_r E a_records (nI x.1) (nI 0) (nI x.2) (nI s.1) (nI s.2.1)) (re_cs E old s.2.2.2.2) := by
    intro f st r x s cll clv fr ret fv wc wt hx hf hs hp
    obtain ⟨f, rfl⟩ : ∃ f', f = f' + 1 := ⟨f - 1, by omega⟩
    have ne : ¬ nI x.1 = 0 := nI_ne0 (by omega) (by omega)
    exact br_f (lim hs) (br_f ne hp)
  refine ⟨?_, ?_, ?_, ?_, ?_, ?_, ?_, ?_, ?_, ?_, ?_, ?_, ?_, ?_, ?_⟩
  · intro b d c a H st f ca co cll clv fr ret fv wc wt h1 h2 hr
    exact H st f ca co cll clv fr ret fv wc wt (by omega) (by omega) hr
  · -- VAR
    intro b c m s fr' F R w W hc o1 o2 hm k hf hw H st f ca co cll clv fr ret fv wc wt h1 h2 hr
    obtain ⟨f, rfl⟩ : ∃ f', f = f' + 1 := ⟨f - 1, by omega⟩
    have v : vp_in (nI c) 113 := vp_in_nI (by omega) (by omega)
    have nx := (hc9 c hc).2.2.1 (by omega)
    refine br_f (lim (by omega)) (br_t rfl ⟨v, ?_⟩)
    rw [rn_at nd (by omega), rn_at oc (by omega), o1, o2]
    refine nm_e ⟨v, nm_e (br_f (by decide) (br_f (by decide) (br_f (by decide) (br_t rfl ?_))))⟩
    refine xo_var (nn := fun c => N (nd c)) A XT hm k hf hw (by show N (nd c) = _; rw [o2]) hr (fun wc' wt' hr' => nm_r (nI_1 st) ?_)
    rw [nI_1 c]
    exact H (st + 1) f _ _ _ _ _ _ _ _ _ (by omega) (by omega) (xr_ctl hr' nx.2)
  · -- NUM
    intro b c m s fr' F R w W hc o1 o2 hm k hf hw H st f ca co cll clv fr ret fv wc wt h1 h2 hr
    obtain ⟨f, rfl⟩ : ∃ f', f = f' + 1 := ⟨f - 1, by omega⟩
    have v : vp_in (nI c) 113 := vp_in_nI (by omega) (by omega)
    have nx := (hc9 c hc).2.2.1 (by omega)
    refine br_f (lim (by omega)) (br_t rfl ⟨v, ?_⟩)
    rw [rn_at nd (by omega), rn_at oc (by omega), o1, o2]
    refine nm_e ⟨v, nm_e (br_f (by decide) (br_f (by decide) (br_t rfl ⟨vp_in_nI (by omega) (by omega), ?_⟩)))⟩
    rw [nI_clamp (n := m) (by omega)]
    refine xo_num (nn := fun c => N (nd c)) (a_operands m) hw hr (fun wc' wt' hr' => nm_r (nI_1 st) ?_)
    rw [nI_1 c]
    exact H (st + 1) f _ _ _ _ _ _ _ _ _ (by omega) (by omega) (xr_ctl hr' nx.2)
  · -- LAM at the limit
    intro b c m s fr' F R w W hc o1 o2 hm k hf hw hcm J st f ca co cll clv fr ret fv wc wt h1 h2 hr
    obtain ⟨f, rfl⟩ : ∃ f', f = f' + 1 := ⟨f - 1, by omega⟩
    have v : vp_in (nI c) 113 := vp_in_nI (by omega) (by omega)
    refine br_f (lim (by omega)) (br_t rfl ⟨v, ?_⟩)
    rw [rn_at nd (by omega), rn_at oc (by omega), o1, o2]
    refine nm_e ⟨v, nm_e (br_f (by decide) (br_f (by decide) (br_f (by decide) (br_f (by decide) (br_t rfl ?_)))))⟩
    refine xo_lamF (m := m) hE h64 hcm hr (nm_r (nI_1 st) ?_)
    exact fin (x := (5, m)) (Or.inr (Or.inr rfl)) (by omega) (by omega) (J _ _ _ _ _ _ _)
  · -- LAM
    intro b c m s fr' F R w W hc o1 o2 hm k hf hw Wf hcm H st f ca co cll clv fr ret fv wc wt h1 h2 hr
    obtain ⟨f, rfl⟩ : ∃ f', f = f' + 1 := ⟨f - 1, by omega⟩
    have v : vp_in (nI c) 113 := vp_in_nI (by omega) (by omega)
    have nx := (hc9 c hc).2.2.1 (by omega)
    refine br_f (lim (by omega)) (br_t rfl ⟨v, ?_⟩)
    rw [rn_at nd (by omega), rn_at oc (by omega), o1, o2]
    refine nm_e ⟨v, nm_e (br_f (by decide) (br_f (by decide) (br_f (by decide) (br_f (by decide) (br_t rfl ?_)))))⟩
    refine xo_lam (nn := fun c => N (nd c)) A XT hm k hf hw h64 Wf hcm (by show N (nd c) = _; rw [o2]) hr (fun co' cll' clv' wc' wt' hr' => nm_r (nI_1 st) ?_)
    rw [nI_1 c]
    exact H (st + 1) f _ _ _ _ _ _ _ _ _ (by omega) (by omega) (xr_ctl hr' nx.2)
  · -- BRANCH on a closure
    intro b c m s fr' F R w W k hc o1 o2 hm k6 hw Wf hk J st f ca co cll clv fr ret fv wc wt h1 h2 hr
    obtain ⟨f, rfl⟩ : ∃ f', f = f' + 1 := ⟨f - 1, by omega⟩
    have v : vp_in (nI c) 113 := vp_in_nI (by omega) (by omega)
    have := c64 Wf
    refine br_f (lim (by omega)) (br_t rfl ⟨v, ?_⟩)
    rw [rn_at nd (by omega), rn_at oc (by omega), rn_at tg (by omega), o1, o2]
    refine nm_e ⟨v, nm_e (br_f (by decide) (br_f (by decide) (br_f (by decide) (br_f (by decide) (br_f (by decide) (br_f (by decide) (br_t rfl ⟨v, ?_⟩)))))))⟩
    rw [nI_1 c]
    refine xo_ifS hE hw (by omega) hr (fun r wc' => nm_r (nI_1 st) ?_)
    exact fin (x := (3, m)) (Or.inl rfl) (by omega) (by omega) (J _ _ _ _ _ _ _)
  · -- BRANCH on a number
    intro b c m s fr' F R w W i hc o1 o2 hm k6 hw H st f ca co cll clv fr ret fv wc wt h1 h2 hr
    obtain ⟨f, rfl⟩ : ∃ f', f = f' + 1 := ⟨f - 1, by omega⟩
    have v : vp_in (nI c) 113 := vp_in_nI (by omega) (by omega)
    have nx := (hc9 c hc).2.2.1 (by omega)
    have nt := (hc9 c hc).2.2.2.1 (Or.inl o1)
    refine br_f (lim (by omega)) (br_t rfl ⟨v, ?_⟩)
    rw [rn_at nd (by omega), rn_at oc (by omega), rn_at tg (by omega), o1, o2]
    refine nm_e ⟨v, nm_e (br_f (by decide) (br_f (by decide) (br_f (by decide) (br_f (by decide) (br_f (by decide) (br_f (by decide) (br_t rfl ⟨v, ?_⟩)))))))⟩
    rw [nI_1 c]
    refine xo_if (nn := fun c => N (nd c)) i hw hr (fun wc' hr' => nm_r (nI_1 st) ?_)
    by_cases z : i = 0
    · rw [if_pos z] at H ⊢
      exact H (st + 1) f _ _ _ _ _ _ _ _ _ (by omega) (by omega) (xr_ctl hr' nx.2)
    · rw [if_neg z] at H ⊢
      exact H (st + 1) f _ _ _ _ _ _ _ _ _ (by omega) (by omega) (xr_ctl hr' nt.2)
  · -- JUMP
    intro b c a hc o1 H st f ca co cll clv fr ret fv wc wt h1 h2 hr
    obtain ⟨f, rfl⟩ : ∃ f', f = f' + 1 := ⟨f - 1, by omega⟩
    have v : vp_in (nI c) 113 := vp_in_nI (by omega) (by omega)
    have nt := (hc9 c hc).2.2.2.1 (Or.inr o1)
    refine br_f (lim (by omega)) (br_t rfl ⟨v, ?_⟩)
    rw [rn_at nd (by omega), rn_at oc (by omega), rn_at tg (by omega), o1]
    refine nm_e ⟨v, nm_e (br_f (by decide) (br_f (by decide) (br_f (by decide) (br_f (by decide) (br_f (by decide) (br_f (by decide) (br_f (by decide) (br_t rfl ⟨v, nm_r (nI_1 st) ?_⟩))))))))⟩
    exact H (st + 1) f _ _ _ _ _ _ _ _ _ (by omega) (by omega) (xr_ctl hr nt.2)
  · -- COMBINE
    intro b c m s fr' F R w W i j hc o1 o2 hm k hw H st f ca co cll clv fr ret fv wc wt h1 h2 hr
    obtain ⟨f, rfl⟩ : ∃ f', f = f' + 1 := ⟨f - 1, by omega⟩
    have v : vp_in (nI c) 113 := vp_in_nI (by omega) (by omega)
    have nx := (hc9 c hc).2.2.1 (by omega)
    refine br_f (lim (by omega)) (br_t rfl ⟨v, ?_⟩)
    rw [rn_at nd (by omega), rn_at oc (by omega), o1, o2]
    refine nm_e ⟨v, nm_e (br_f (by decide) (br_f (by decide) (br_f (by decide) (br_f (by decide) (br_f (by decide) (br_t rfl ?_))))))⟩
    refine xo_sum (nn := fun c => N (nd c)) A XT hm k i j hw hr (fun wc' wt' hr' => nm_r (nI_1 st) ?_)
    rw [nI_1 c]
    exact H (st + 1) f _ _ _ _ _ _ _ _ _ (by omega) (by omega) (xr_ctl hr' nx.2)
  · -- COMBINE on a closure
    intro b c m s fr' F R w W v' x hc o1 o2 hm k hw Wf ov ox hs J st f ca co cll clv fr ret fv wc wt h1 h2 hr
    obtain ⟨f, rfl⟩ : ∃ f', f = f' + 1 := ⟨f - 1, by omega⟩
    have v : vp_in (nI c) 113 := vp_in_nI (by omega) (by omega)
    refine br_f (lim (by omega)) (br_t rfl ⟨v, ?_⟩)
    rw [rn_at nd (by omega), rn_at oc (by omega), o1, o2]
    refine nm_e ⟨v, nm_e (br_f (by decide) (br_f (by decide) (br_f (by decide) (br_f (by decide) (br_f (by decide) (br_t rfl ?_))))))⟩
    refine xo_sumS hE (c64 Wf) hw ov ox hs hr (fun wc' => nm_r (nI_1 st) ?_)
    exact fin (x := (3, m)) (Or.inl rfl) (by omega) (by omega) (J _ _ _ _ _ _ _)
  · -- CHOICE on a number
    intro b c m s fr' F R w W i x hc o1 o2 hm k hw J st f ca co cll clv fr ret fv wc wt h1 h2 hr
    obtain ⟨f, rfl⟩ : ∃ f', f = f' + 1 := ⟨f - 1, by omega⟩
    have v : vp_in (nI c) 113 := vp_in_nI (by omega) (by omega)
    refine br_f (lim (by omega)) (br_t rfl ⟨v, ?_⟩)
    rw [rn_at nd (by omega), rn_at oc (by omega), o1, o2]
    refine nm_e ⟨v, nm_e (br_f (by decide) (br_f (by decide) (br_f (by decide) (br_f (by decide) (br_f (by decide) (br_f (by decide) (br_f (by decide) (br_f (by decide) (br_f (by decide) (br_t rfl ?_))))))))))⟩
    unfold wpX_performChoice
    refine xo_appS hE i x hw hr (fun wc' => br_f (by decide) (nm_r (nI_1 st) ?_))
    exact fin (x := (3, m)) (Or.inl rfl) (by omega) (by omega) (J _ _ _ _ _ _ _)
  · -- STICK
    intro b c m s a hc o1 o2 hm ea J st f ca co cll clv fr ret fv wc wt h1 h2 hr
    obtain ⟨f, rfl⟩ : ∃ f', f = f' + 1 := ⟨f - 1, by omega⟩
    have v : vp_in (nI c) 113 := vp_in_nI (by omega) (by omega)
    have e1 : ca = nI s.1 := by rw [← ea]; exact hr.1.1
    have e2 : co = nI s.2.1 := by rw [← ea]; exact hr.1.2.1
    rw [e1, e2, ea]
    refine br_f (lim (by omega)) (br_t rfl ⟨v, ?_⟩)
    rw [rn_at nd (by omega), rn_at oc (by omega), o1, o2]
    refine nm_e ⟨v, nm_e (br_f (by decide) (br_f (by decide) (br_f (by decide) (br_f (by decide) (br_f (by decide) (br_f (by decide) (br_f (by decide) (br_f (by decide) (br_f (by decide) (br_f (by decide) (br_t rfl ?_)))))))))))⟩
    refine xo_endRun (p0 := nI 3) (p1 := nI 0) (p2 := nI m) hE (nm_r (nI_1 st) ?_)
    exact fin (x := (3, m)) (Or.inl rfl) (by omega) (by omega) (J _ _ _ _ _ _ _)
  · -- a call at the limit
    intro b c m s fr' F R w W kk x hc o1 o2 hm k hw Wf hk hcl' J st f ca co cll clv fr ret fv wc wt h1 h2 hr
    obtain ⟨f, rfl⟩ : ∃ f', f = f' + 1 := ⟨f - 1, by omega⟩
    have v : vp_in (nI c) 113 := vp_in_nI (by omega) (by omega)
    refine br_f (lim (by omega)) (br_t rfl ⟨v, ?_⟩)
    rcases o1 with o1 | o1
    · rw [rn_at nd (by omega), rn_at oc (by omega), o1, o2]
      refine nm_e ⟨v, nm_e (br_f (by decide) (br_f (by decide) (br_f (by decide) (br_f (by decide) (br_f (by decide) (br_f (by decide) (br_f (by decide) (br_f (by decide) (br_t rfl ?_)))))))))⟩
      refine xo_appC hE (c64 Wf) hk hcl' x hw hr (fun wc' => ⟨v, nm_r (nI_1 st) ?_⟩)
      exact fin (x := (4, m)) (Or.inr (Or.inl rfl)) (by omega) (by omega) (J _ _ _ _ _ _ _)
    · rw [rn_at nd (by omega), rn_at oc (by omega), o1, o2]
      refine nm_e ⟨v, nm_e (br_f (by decide) (br_f (by decide) (br_f (by decide) (br_f (by decide) (br_f (by decide) (br_f (by decide) (br_f (by decide) (br_f (by decide) (br_f (by decide) (br_t rfl ?_))))))))))⟩
      unfold wpX_performChoice
      refine xo_appC hE (c64 Wf) hk hcl' x hw hr (fun wc' => br_f (by decide) (nm_r (nI_1 st) ?_))
      exact fin (x := (4, m)) (Or.inr (Or.inl rfl)) (by omega) (by omega) (J _ _ _ _ _ _ _)
  · -- a call
    intro b c m s fr' F R w W kk x hc o1 o2 hm k hw hf Wf hk ox hcl' hNe H st f ca co cll clv fr ret fv wc wt h1 h2 hr
    obtain ⟨f, rfl⟩ : ∃ f', f = f' + 1 := ⟨f - 1, by omega⟩
    have v : vp_in (nI c) 113 := vp_in_nI (by omega) (by omega)
    obtain ⟨p1, p2, p3⟩ := Wf.2.2 kk hk
    have lp : tr_lc K (s.2.2.1 kk) < L := by rw [hLn]; exact tr_lc_lt p1 p2
    have ne9 : oc c ≠ 9 := by
      rcases o1 with o1 | o1
      · have := o1.1; omega
      · omega
    have nx := (hc9 c hc).2.2.1 ne9
    refine br_f (lim (by omega)) (br_t rfl ⟨v, ?_⟩)
    rcases o1 with ⟨o1, o3⟩ | o1
    · rw [rn_at nd (by omega), rn_at oc (by omega), o1, o2]
      refine nm_e ⟨v, nm_e (br_f (by decide) (br_f (by decide) (br_f (by decide) (br_f (by decide) (br_f (by decide) (br_f (by decide) (br_f (by decide) (br_f (by decide) (br_t rfl ?_)))))))))⟩
      rw [nI_1 c]
      refine xo_app (nn := fun c => N (nd c)) (z := c + 1) (s := s) A XT hE hcl h64 hm hf Wf hk hcl' x hw nx.2 hr (fun ca' fr2 wc' ret' fv' hr' => ⟨v, ?_⟩)
      rw [rn_at tg (by omega), o3]
      refine nm_r (nI_1 st) ?_
      exact H (st + 1) f _ _ _ _ _ _ _ _ _ (by omega) (by omega) (hr' _ hNe)
    · rw [rn_at nd (by omega), rn_at oc (by omega), o1, o2]
      refine nm_e ⟨v, nm_e (br_f (by decide) (br_f (by decide) (br_f (by decide) (br_f (by decide) (br_f (by decide) (br_f (by decide) (br_f (by decide) (br_f (by decide) (br_f (by decide) (br_t rfl ?_))))))))))⟩
      unfold wpX_performChoice
      rw [nI_1 c]
      refine xo_app (nn := fun c => N (nd c)) (z := c + 1) (s := s) A XT hE hcl h64 hm hf Wf hk hcl' x hw nx.2 hr (fun ca' fr2 wc' ret' fv' hr' => br_t (nI_pos' (by omega)) ⟨vp_in_nI (by omega) (by omega), ?_⟩)
      rw [nI_clamp (n := tr_lc K (s.2.2.1 kk)) (by omega), hen _ lp]
      refine nm_r (nI_1 st) ?_
      exact H (st + 1) f _ _ _ _ _ _ _ _ _ (by omega) (by omega) (hr' _ hNe)
  · -- RETURN
    intro b c z s fr' F R w W g hc o1 hf H st f ca co cll clv fr ret fv wc wt h1 h2 hr
    obtain ⟨f, rfl⟩ : ∃ f', f = f' + 1 := ⟨f - 1, by omega⟩
    have v : vp_in (nI c) 113 := vp_in_nI (by omega) (by omega)
    have h2 : fr = nI (fr' + 1) := hr.2.1
    refine br_f (lim (by omega)) (br_t rfl ⟨v, ?_⟩)
    rw [rn_at nd (by omega), rn_at oc (by omega), o1]
    refine nm_e ⟨v, nm_e (br_f (by decide) (br_t (by decide) (br_f ?_ ?_)))⟩
    · rw [h2]; exact nI_ne0 (by omega) (by omega)
    · refine xo_ret (nn := fun c => N (nd c)) (z := z) hf hr (fun fr2 hr' => nm_r (nI_1 st) ?_)
      exact H (st + 1) f _ _ _ _ _ _ _ _ _ (by omega) (by omega) hr'
end
end
section
/-! ===== the class: run ===== -/
def ru_e (r : ev_R) : Nat := match r with
  | .inl v => ru_a v
  | .inr x => x.1
def ru_v (K : Nat → Nat) (s : ev_S) (r : ev_R) : Int32 := match r with
  | .inl v => ru_b K s v
  | .inr _ => nI 0
def ru_n (r : ev_R) : Int32 := match r with
  | .inl _ => -1
  | .inr x => nI x.2
theorem ru_a0 (v : ev_V) : ¬ nI (ru_a v) = 0 := by
  rcases v with i | k
  · exact (by decide : ¬ nI 1 = 0)
  · exact (by decide : ¬ nI 2 = 0)
/-- the evaluation of the whole term -/
def ru_ev (K P N O : Nat → Nat) (op : Nat → Int32) (n cl cm : Nat) : ev_R × ev_S := ev_al K (tr_e P n) N (re_ix N O) op (ru_m K) cl cm 2400 ev_e0' 0 ev_s0
def re_cz (E i : Nat) (old : Nat → Int32) : Nat → Int32 := fun j => if E * 48 ≤ j ∧ j < E * 48 + i then 0 else old j
theorem re_cz_0 (E : Nat) (old : Nat → Int32) : re_cz E 0 old = old := by
  funext j
  unfold re_cz
  rw [if_neg (by omega)]
theorem re_cz_s (E i : Nat) (old : Nat → Int32) : upd (re_cz E i old) (E * 48 + i) 0 = re_cz E (i + 1) old := by
  funext j
  unfold upd re_cz
  by_cases z : j = E * 48 + i
  · rw [if_pos z, if_pos (by omega)]
  · rw [if_neg z]
    by_cases y : E * 48 ≤ j ∧ j < E * 48 + i
    · rw [if_pos y, if_pos (by omega)]
    · rw [if_neg y, if_neg (by omega)]
theorem re_cz_e (E : Nat) (old : Nat → Int32) : re_cz E 48 old = re_cs E old (fun _ => 0) := rfl
section
variable {f_cellLimit f_callLimit f_closureLimit f_nodes f_holes f_lambdas f_stageReached f_grown f_codeLength f_runningEngine f_ending f_callCount f_closureCount f_frame f_waitingCount : Int32} {a_kinds a_operands a_parents a_places a_children a_levels a_nests a_scopes a_nodeLambdas a_lambdaNodes a_liveNodes a_nodeFlows a_paramFlows a_codeOps a_codeNodes a_codeTargets a_branchSpots a_entries a_frameReturns a_closureLambdas a_records a_calledSets : Nat → Int32} {a_closureValues a_frameValues a_waiting : Nat → Int64}
variable {cs n L cl cm cn E : Nat} {K P N Lv S O B oc nd tg en : Nat → Nat} {old : Nat → Int32}
theorem xx_startRun {post : SX → Prop} (hE : E < 2) (hp : post (f_cellLimit, f_callLimit, f_closureLimit, f_nodes, f_holes, f_lambdas, f_stageReached, f_grown, f_codeLength, (nI E), (nI 0), (nI 0), (nI 0), (nI 0), (nI 0), a_kinds, a_operands, a_parents, a_places, a_children, a_levels, a_nests, a_scopes, a_nodeLambdas, a_lambdaNodes, a_liveNodes, a_nodeFlows, a_paramFlows, a_codeOps, a_codeNodes, a_codeTargets, a_branchSpots, a_entries, a_frameReturns, a_frameValues, a_closureLambdas, a_closureValues, a_waiting, a_records, (re_cs E a_calledSets (fun _ => 0)))) : wpX_startRun post (f_cellLimit, f_callLimit, f_closureLimit, f_nodes, f_holes, f_lambdas, f_stageReached, f_grown, f_codeLength, f_runningEngine, f_ending, f_callCount, f_closureCount, f_frame, f_waitingCount, a_kinds, a_operands, a_parents, a_places, a_children, a_levels, a_nests, a_scopes, a_nodeLambdas, a_lambdaNodes, a_liveNodes, a_nodeFlows, a_paramFlows, a_codeOps, a_codeNodes, a_codeTargets, a_branchSpots, a_entries, a_frameReturns, a_frameValues, a_closureLambdas, a_closureValues, a_waiting, a_records, a_calledSets) (nI E) := by
  have go : ∀ d i f, i + d = 48 → d < f → wX_startRun_32 post (nI E) f_cellLimit f_callLimit f_closureLimit f_nodes f_holes f_lambdas f_stageReached f_grown f_codeLength (nI E) (nI 0) (nI 0) (nI 0) (nI 0) (nI 0) f (nI i) a_kinds a_operands a_parents a_places a_children a_levels a_nests a_scopes a_nodeLambdas a_lambdaNodes a_liveNodes a_nodeFlows a_paramFlows a_codeOps a_codeNodes a_codeTargets a_branchSpots a_entries a_frameReturns a_frameValues a_closureLambdas a_closureValues a_waiting a_records (re_cz E i a_calledSets) := by
    intro d
    induction d with
    | zero =>
      intro i f hi hf
      obtain ⟨f, rfl⟩ : ∃ f', f = f' + 1 := ⟨f - 1, by omega⟩
      have e : i = 48 := by omega
      subst e
      exact br_t (by decide) hp
    | succ d ih =>
      intro i f hi hf
      obtain ⟨f, rfl⟩ : ∃ f', f = f' + 1 := ⟨f - 1, by omega⟩
      refine br_f (nI_ge (b := 48) (by omega) (by decide)) ?_
      rw [ru_48, nI_clamp (n := E * 48 + i) (by omega), re_cz_s]
      exact ⟨vp_in_nI (by omega) (by omega), nm_e (nm_r (nI_1 i) (ih (i + 1) f (by omega) (by omega)))⟩
  have g := go 48 0 49 (by omega) (by omega)
  rw [re_cz_0] at g
  exact ⟨49, g⟩
theorem xr_0 (lc N nn : Nat → Nat) (c : Nat) (F : Nat → Nat → ev_V) (R : Nat → Nat) (W : Nat → ev_V) (h : nn c = 0) (cll : Nat → Int32) (clv : Nat → Int64) (ret : Nat → Int32) (fv wt : Nat → Int64) : xr_P lc N nn c (ev_s0, 0, F, R, 0, W) (nI 0) (nI 0) cll clv (nI 0) ret fv (nI 0) wt :=
  ⟨⟨rfl, rfl, fun k hk => absurd hk (Nat.not_lt_zero k)⟩, rfl, fun j h1 h2 => absurd h1 (by have : j ≤ 0 := h2; omega), fun j hj => absurd hj (Nat.not_lt_zero j), fun i hi => by rw [h] at hi; exact absurd hi (Nat.not_lt_zero i), rfl, fun j hj => absurd hj (Nat.not_lt_zero j)⟩
theorem ru_post (A : re_A cs n 0 L K P N Lv S O B) (op : Nat → Int32) (hcl : cl ≤ 48) : ev_Pre K (tr_e P n) N n cl cm 2400 ev_e0' 0 ev_s0 ∧ ev_Post K N n cl cm ev_s0 (ru_ev K P N O op n cl cm).1 (ru_ev K P N O op n cl cm).2 := by
  obtain ⟨h0, F⟩ := re_full A
  have hn : n ≤ 48 := by have := A.2.2.1; have := A.2.2.2.1; omega
  have N0 : N 0 = 0 := (A.2.2.2.2.2.2.1 0 h0).1 rfl
  have Pr : ev_Pre K (tr_e P n) N n cl cm 2400 ev_e0' 0 ev_s0 := ev_pre0 h0 (tr_root h0) hn hcl N0
  exact ⟨Pr, (ev_ind2 K (tr_e P n) N (re_ix N O) op (ru_m K) cl cm n (re_ev_T A) (fun _ _ _ _ _ _ => True) (fun _ _ _ _ _ _ => trivial) (fun _ _ _ _ _ _ => trivial) (fun _ _ _ _ _ _ _ => trivial) (fun _ _ _ _ _ _ _ => trivial) (fun _ _ _ _ _ _ _ _ _ _ _ => trivial) (fun _ _ _ _ _ _ _ _ _ _ _ => trivial) (fun _ _ _ _ _ _ _ _ _ _ _ _ _ _ _ _ => trivial) (fun _ _ _ _ _ _ _ _ _ _ _ _ _ _ _ _ _ => trivial) (fun _ _ _ _ _ _ _ _ _ _ _ _ _ _ _ _ => trivial) (fun _ _ _ _ _ _ _ _ _ _ _ _ _ _ _ _ _ => trivial) (fun _ _ _ _ _ _ _ _ _ _ _ _ _ _ _ _ _ _ _ _ _ _ => trivial) (fun _ _ _ _ _ _ _ _ _ _ _ _ _ _ _ _ => trivial) (fun _ _ _ _ _ _ _ _ _ _ _ _ _ _ _ _ _ => trivial) 2400 ev_e0' 0 ev_s0 Pr).2⟩
theorem ru_cost (A : re_A cs n 0 L K P N Lv S O B) {s' : ev_S} (h : s'.1 ≤ 48) : am_c (tr_e P n) 0 ev_s0 s' ≤ 7104 := by
  obtain ⟨h0, F⟩ := re_full A
  have hn : n ≤ 48 := by have := A.2.2.1; have := A.2.2.2.1; omega
  have e := tr_root (P := P) h0
  show 3 * (tr_e P n 0 - 0) + 145 * (s'.1 - 0) ≤ 7104
  omega
theorem xx_interpret {post : SX → Prop} (A : re_A cs n 0 L K P N Lv S O B) (XT : re_X n K P N Lv S O B a_kinds a_operands a_parents a_places a_children a_levels a_nests a_scopes a_nodeLambdas a_lambdaNodes) (hE : E < 2) (hcl : cl ≤ 48) (h64 : cm ≤ 64)
    (hp : ∀ ca co cll clv fr ret fv wc wt, post (f_cellLimit, (nI cl), (nI cm), f_nodes, f_holes, f_lambdas, f_stageReached, f_grown, f_codeLength, (nI E), (nI (ru_e (ru_ev K P N O a_operands n cl cm).1)), ca, co, fr, wc, a_kinds, a_operands, a_parents, a_places, a_children, a_levels, a_nests, a_scopes, a_nodeLambdas, a_lambdaNodes, a_liveNodes, a_nodeFlows, a_paramFlows, a_codeOps, a_codeNodes, a_codeTargets, a_branchSpots, a_entries, ret, fv, cll, clv, wt, (ru_r E a_records (nI (ru_e (ru_ev K P N O a_operands n cl cm).1)) (ru_v K (ru_ev K P N O a_operands n cl cm).2 (ru_ev K P N O a_operands n cl cm).1) (ru_n (ru_ev K P N O a_operands n cl cm).1) (nI (ru_ev K P N O a_operands n cl cm).2.1) (nI (ru_ev K P N O a_operands n cl cm).2.2.1)), (re_cs E old (ru_ev K P N O a_operands n cl cm).2.2.2.2.2))) :
    wpX_interpret post (f_cellLimit, (nI cl), (nI cm), f_nodes, f_holes, f_lambdas, f_stageReached, f_grown, f_codeLength, (nI E), (nI 0), (nI 0), (nI 0), (nI 0), (nI 0), a_kinds, a_operands, a_parents, a_places, a_children, a_levels, a_nests, a_scopes, a_nodeLambdas, a_lambdaNodes, a_liveNodes, a_nodeFlows, a_paramFlows, a_codeOps, a_codeNodes, a_codeTargets, a_branchSpots, a_entries, a_frameReturns, a_frameValues, a_closureLambdas, a_closureValues, a_waiting, a_records, (re_cs E old (fun _ => 0))) := by
  obtain ⟨h0, F0⟩ := re_full A
  have hn : n ≤ 48 := by have := A.2.2.1; have := A.2.2.2.1; omega
  have N0 : N 0 = 0 := (A.2.2.2.2.2.2.1 0 h0).1 rfl
  obtain ⟨Pr, Po⟩ := ru_post (cm := cm) A a_operands hcl
  have run := am_run (re_ev_T A) (re_tr_L A) hcl (xi_R (post := post) (f_cellLimit := f_cellLimit) (f_nodes := f_nodes) (f_holes := f_holes) (f_lambdas := f_lambdas) (f_stageReached := f_stageReached) (f_grown := f_grown) (f_codeLength := f_codeLength) (a_liveNodes := a_liveNodes) (a_nodeFlows := a_nodeFlows) (a_paramFlows := a_paramFlows) (a_codeOps := a_codeOps) (a_codeNodes := a_codeNodes) (a_codeTargets := a_codeTargets) (a_branchSpots := a_branchSpots) (a_entries := a_entries) (a_records := a_records) (old := old) A XT hE hcl h64) 2400 ev_e0' 0 ev_s0 Pr
  have run' : am_M (tr_e P n) N Lv _ _ ev_e0' 0 ev_s0 (ru_ev K P N O a_operands n cl cm).1 (ru_ev K P N O a_operands n cl cm).2 := run
  obtain ⟨g1, g2⟩ := run' 0 (fun _ => ev_e0') (fun _ => 0) 0 (fun _ => .inl 0) (Nat.le_refl _) (Nat.zero_le _) rfl
  have W1 := Po.1.1
  have W2 := Po.1.2.1
  have cost := ru_cost (P := P) (K := K) A (s' := (ru_ev K P N O a_operands n cl cm).2) (by omega)
  generalize hr : (ru_ev K P N O a_operands n cl cm).1 = r at *
  generalize hs : (ru_ev K P N O a_operands n cl cm).2 = s' at *
  rcases r with v | x
  · refine ⟨7107, ?_⟩
    have fin := g1 v rfl 2 (fun st f ca co cll clv fr ret fv wc wt h1 h2 hr => by
      obtain ⟨f, rfl⟩ : ∃ f', f = f' + 1 := ⟨f - 1, by omega⟩
      obtain ⟨f, rfl⟩ : ∃ f', f = f' + 1 := ⟨f - 1, by omega⟩
      have ov := Po.2.2.1 v rfl
      refine br_f (nI_ge (b := 1000000) (by omega) (by decide)) (br_t rfl (br_t (xe_n 0 (by decide)).1 ?_))
      have bk : (xe_c (.inr 0) ^^^ (-1)) = nI 0 := (xe_n 0 (by decide)).2
      rw [bk]
      refine ⟨vp_in_nI (by decide) (by decide), nm_r (XT.2.2.1 h0) (br_f (by decide) ?_)⟩
      refine xo_end (nn := N) hE (by omega) (by decide) ov hr (fun wc' => nm_r (nI_1 st) ?_)
      have ne : ¬ nI (ru_a v) = 0 := ru_a0 v
      exact br_f (nI_ge (b := 1000000) (by omega) (by decide)) (br_f ne (hp _ _ _ _ _ _ _ _ _)))
    exact fin 0 7107 _ _ _ _ _ _ _ _ _ (by omega) (by omega) (xr_0 (tr_lc K) N N 0 (fun _ => ev_e0') (fun _ => 0) (fun _ => .inl 0) N0 a_closureLambdas a_closureValues a_frameReturns a_frameValues a_waiting)
  · refine ⟨7107, ?_⟩
    have fin := g2 x rfl (fun cll clv fr ret fv wc wt => hp _ _ _ _ _ _ _ _ _)
    exact fin 0 7107 _ _ _ _ _ _ _ _ _ (by omega) (by omega) (xr_0 (tr_lc K) N N 0 (fun _ => ev_e0') (fun _ => 0) (fun _ => .inl 0) N0 a_closureLambdas a_closureValues a_frameReturns a_frameValues a_waiting)
theorem xx_execute {post : SX → Prop} {t : so_S} (A : re_A cs n 0 L K P N Lv S O B) (XT : re_X n K P N Lv S O B a_kinds a_operands a_parents a_places a_children a_levels a_nests a_scopes a_nodeLambdas a_lambdaNodes) (hE : E < 2) (hcl : cl ≤ 48) (h64 : cm ≤ 64) (hcn : cn ≤ 113) (Cl : so_Cl K (tr_e P n) B (tr_lc K) (re_bd K n) L n t) (t0 : t.1 0 = 1) (I : cp_I K (tr_e P n) N oc nd tg en t n L cn) (hk6 : ∀ x, x < cn → oc x = 6 → ∀ l, l < L → t.2.1 (nd x + 1) = 2 ^ l → tg x = en l) (hen : ∀ l, l < L → a_entries l = nI (en l))
    (hp : ∀ ca co cll clv fr ret fv wc wt, post (f_cellLimit, (nI cl), (nI cm), f_nodes, f_holes, f_lambdas, f_stageReached, f_grown, f_codeLength, (nI E), (nI (ru_e (ru_ev K P N O a_operands n cl cm).1)), ca, co, fr, wc, a_kinds, a_operands, a_parents, a_places, a_children, a_levels, a_nests, a_scopes, a_nodeLambdas, a_lambdaNodes, a_liveNodes, a_nodeFlows, a_paramFlows, (rn_F oc), (rn_F nd), (rn_F tg), a_branchSpots, a_entries, ret, fv, cll, clv, wt, (ru_r E a_records (nI (ru_e (ru_ev K P N O a_operands n cl cm).1)) (ru_v K (ru_ev K P N O a_operands n cl cm).2 (ru_ev K P N O a_operands n cl cm).1) (ru_n (ru_ev K P N O a_operands n cl cm).1) (nI (ru_ev K P N O a_operands n cl cm).2.1) (nI (ru_ev K P N O a_operands n cl cm).2.2.1)), (re_cs E old (ru_ev K P N O a_operands n cl cm).2.2.2.2.2))) :
    wpX_execute post (f_cellLimit, (nI cl), (nI cm), f_nodes, f_holes, f_lambdas, f_stageReached, f_grown, f_codeLength, (nI E), (nI 0), (nI 0), (nI 0), (nI 0), (nI 0), a_kinds, a_operands, a_parents, a_places, a_children, a_levels, a_nests, a_scopes, a_nodeLambdas, a_lambdaNodes, a_liveNodes, a_nodeFlows, a_paramFlows, (rn_F oc), (rn_F nd), (rn_F tg), a_branchSpots, a_entries, a_frameReturns, a_frameValues, a_closureLambdas, a_closureValues, a_waiting, a_records, (re_cs E old (fun _ => 0))) := by
  obtain ⟨h0, F0⟩ := re_full A
  have hn : n ≤ 48 := by have := A.2.2.1; have := A.2.2.2.1; omega
  have hL : L ≤ 16 := A.2.2.2.2.2.1
  have hLn := A.2.2.2.2.1
  have N0 : N 0 = 0 := (A.2.2.2.2.2.2.1 0 h0).1 rfl
  have sc0 : ∀ l, (fun m l => (S m).testBit l) 0 l = false := (A.2.2.2.2.2.2.2.1 0 h0).1 rfl
  obtain ⟨Pr, Po⟩ := ru_post (cm := cm) A a_operands hcl
  have Bs := re_so_B (bd := re_bd K n) A (re_bd_is (K := K) (n := n))
  have G : cm_G K (tr_e P n) (tr_lc K) (re_bd K n) oc nd tg en L n cn t := cp_G I (fun p hp kp => by rw [hLn]; exact tr_lc_lt hp kp) hk6
  have run := cm_run (re_ev_T A) (re_tr_L A) hcl hL Bs Cl G (xc_R (post := post) (f_cellLimit := f_cellLimit) (f_nodes := f_nodes) (f_holes := f_holes) (f_lambdas := f_lambdas) (f_stageReached := f_stageReached) (f_grown := f_grown) (f_codeLength := f_codeLength) (a_liveNodes := a_liveNodes) (a_nodeFlows := a_nodeFlows) (a_paramFlows := a_paramFlows) (a_branchSpots := a_branchSpots) (a_entries := a_entries) (a_records := a_records) (old := old) A XT hE hcl h64 hcn I.2.2 hen) 2400 ev_e0' 0 ev_s0 Pr (so_sp0 sc0 t0)
  have run' : cm_M K (tr_e P n) Lv oc nd tg cn t _ _ ev_e0' 0 ev_s0 (ru_ev K P N O a_operands n cl cm).1 (ru_ev K P N O a_operands n cl cm).2 := run
  obtain ⟨d, x0, la, xlt, o9, n9⟩ := I.1
  have lt := la_lt _ _ _ _ la
  have nd0 : N (nd 0) = 0 := by
    have := (la_N (N := N) (re_ev_T A).1 (re_ev_T A).2.1 cm_sk_in (re_ev_T A).2.2.2.1 d 0 0 x0 h0 la 0 (Nat.le_refl _) lt).2.1
    rw [this]; exact N0
  obtain ⟨g1, g2⟩ := run' d 0 x0 0 (fun _ => ev_e0') (fun _ => 0) 0 (fun _ => .inl 0) la (by omega) (Nat.le_refl _) (Nat.zero_le _) rfl
  have W1 := Po.1.1
  have W2 := Po.1.2.1
  have cost := ru_cost (P := P) (K := K) A (s' := (ru_ev K P N O a_operands n cl cm).2) (by omega)
  generalize hr : (ru_ev K P N O a_operands n cl cm).1 = r at *
  generalize hs : (ru_ev K P N O a_operands n cl cm).2 = s' at *
  rcases r with v | x
  · refine ⟨7107, ?_⟩
    have fin := g1 v rfl 2 (fun st f ca co cll clv fr ret fv wc wt h1 h2 hr => by
      obtain ⟨f, rfl⟩ : ∃ f', f = f' + 1 := ⟨f - 1, by omega⟩
      obtain ⟨f, rfl⟩ : ∃ f', f = f' + 1 := ⟨f - 1, by omega⟩
      have ov := Po.2.2.1 v rfl
      have vx : vp_in (nI x0) 113 := vp_in_nI (by omega) (by omega)
      have hfr : fr = nI 0 := hr.2.1
      refine br_f (nI_ge (b := 1000000) (by omega) (by decide)) (br_t rfl ⟨vx, ?_⟩)
      rw [rn_at nd (by omega), rn_at oc (by omega), o9]
      refine nm_e ⟨vx, nm_e (br_f (by decide) (br_t (by decide) (br_t hfr ?_)))⟩
      refine xo_end (nn := fun c => N (nd c)) hE (by omega) (by decide) ov hr (fun wc' => nm_r (nI_1 st) ?_)
      have ne : ¬ nI (ru_a v) = 0 := ru_a0 v
      exact br_f (nI_ge (b := 1000000) (by omega) (by decide)) (br_f ne (hp _ _ _ _ _ _ _ _ _)))
    exact fin 0 7107 _ _ _ _ _ _ _ _ _ (by omega) (by omega) (xr_0 (tr_lc K) N (fun c => N (nd c)) 0 (fun _ => ev_e0') (fun _ => 0) (fun _ => .inl 0) nd0 a_closureLambdas a_closureValues a_frameReturns a_frameValues a_waiting)
  · refine ⟨7107, ?_⟩
    have fin := g2 x rfl (fun cll clv fr ret fv wc wt => hp _ _ _ _ _ _ _ _ _)
    exact fin 0 7107 _ _ _ _ _ _ _ _ _ (by omega) (by omega) (xr_0 (tr_lc K) N (fun c => N (nd c)) 0 (fun _ => ev_e0') (fun _ => 0) (fun _ => .inl 0) nd0 a_closureLambdas a_closureValues a_frameReturns a_frameValues a_waiting)
end
end
section
/-! ===== the reference: a cell gets its value ===== -/
theorem yv_b : vp_nar .boolean 1 = nI 1 ∧ vp_nar .boolean 0 = nI 0 := ⟨rfl, rfl⟩
section
variable {g_cellLimit g_callLimit g_closureLimit g_nodes g_holes g_reached : Int32} {b_kinds b_operands b_parents b_s b_p b_rec b_sets b_live b_done b_fn b_val b_entered b_bind : Nat → Int32}
variable {cs n L cl cm E : Nat} {K P N Lv S O B : Nat → Nat} {old : Nat → Int32} {T : yw_S}
/-- the end of a step that gives cell q the value of cell q' -/
theorem yv_770 {post : Int32 → SY → Prop} {J : Int32 → Int32 → Int32 → Int32 → Int32 → Int32 → (Nat → Int32) → (Nat → Int32) → (Nat → Int32) → (Nat → Int32) → (Nat → Int32) → (Nat → Int32) → (Nat → Int32) → (Nat → Int32) → (Nat → Int32) → (Nat → Int32) → (Nat → Int32) → (Nat → Int32) → (Nat → Int32) → Prop} {fn1 vl1 : Nat → Int32} {x1 ca co x5 x7 : Int32} {k9 q q' st : Nat} (hq : q < 2352) (hq' : q' < 2352) (hk9 : k9 ≤ 6) (hne : k9 ≠ 3 ∨ q' ≠ q) (e1 : ∀ v, upd fn1 q v = upd (yw_fn T) q v) (e2 : ∀ v, upd vl1 q v = upd (yw_vl T) q v) (hz : q ≠ 0 → yw_dn T 0 = 0)
    (h0 : q = 0 → ∀ x4 : Int32, x4 = (if fn1 q' < 0 then nI 1 else nI 2) → J ca co x4 x5 (nI 0) (nI (st + 1)) b_kinds b_operands b_parents b_s b_p b_rec (re_cs E old (yw_cs (yw_fin q (fn1 q') (vl1 q') T))) b_live (rn_F (yw_dn (yw_fin q (fn1 q') (vl1 q') T))) (yw_fn (yw_fin q (fn1 q') (vl1 q') T)) (yw_vl (yw_fin q (fn1 q') (vl1 q') T)) (rn_F (yw_et (yw_fin q (fn1 q') (vl1 q') T))) (rn_F (yw_bi (yw_fin q (fn1 q') (vl1 q') T))))
    (h1 : q ≠ 0 → J ca co (nI 0) x5 (nI 0) (nI (st + 1)) b_kinds b_operands b_parents b_s b_p b_rec (re_cs E old (yw_cs (yw_fin q (fn1 q') (vl1 q') T))) b_live (rn_F (yw_dn (yw_fin q (fn1 q') (vl1 q') T))) (yw_fn (yw_fin q (fn1 q') (vl1 q') T)) (yw_vl (yw_fin q (fn1 q') (vl1 q') T)) (rn_F (yw_et (yw_fin q (fn1 q') (vl1 q') T))) (rn_F (yw_bi (yw_fin q (fn1 q') (vl1 q') T)))) :
    wY_run_770 post J x1 ca co (nI 0) x5 (nI q) x7 (nI st) (nI k9) (nI q') g_cellLimit (nI cl) (nI cm) (nI n) g_holes g_reached b_kinds b_operands b_parents b_s b_p b_rec (re_cs E old (yw_cs T)) b_live (rn_F (yw_dn T)) fn1 vl1 (rn_F (yw_et T)) (rn_F (yw_bi T)) := by
  have vq : vp_in (nI q) 2352 := vp_in_nI hq (by omega)
  have vq' : vp_in (nI q') 2352 := vp_in_nI hq' (by omega)
  have hc := nI_clamp (n := q) (by omega)
  have hc' := nI_clamp (n := q') (by omega)
  have main : wY_run_817 post J x1 ca co (nI 0) x5 x7 (nI st) (nI q) g_cellLimit (nI cl) (nI cm) (nI n) g_holes g_reached b_kinds b_operands b_parents b_s b_p b_rec (re_cs E old (yw_cs T)) b_live (rn_F (yw_dn T)) (upd (yw_fn T) q (fn1 q')) (upd (yw_vl T) q (vl1 q')) (rn_F (yw_et T)) (rn_F (yw_bi T)) := by
    refine ⟨vq, ?_⟩
    rw [hc, yv_b.1, rn_put]
    refine nm_e ?_
    by_cases z : q = 0
    · have ed : rn_F (tr_put (yw_dn T) q 1) 0 = nI 1 := by
        show nI (tr_put (yw_dn T) q 1 0) = nI 1
        rw [z, tr_put_s]
      have ef : upd (yw_fn T) q (fn1 q') 0 = fn1 q' := by rw [z, re_us]
      rw [ed, ef]
      refine br_f (by decide) ?_
      have g := h0 z
      by_cases w : fn1 q' < 0
      · rw [if_pos w] at g
        exact br_f (Int32.not_le.mpr w) (nm_r (nI_1 st) (g 1 rfl))
      · rw [if_neg w] at g
        exact br_t (Int32.not_lt.mp w) (nm_r (nI_1 st) (g 2 rfl))
    · have ed : rn_F (tr_put (yw_dn T) q 1) 0 = nI 0 := by
        show nI (tr_put (yw_dn T) q 1 0) = nI 0
        rw [tr_put_n _ _ (fun w => z w.symm), hz z]
      rw [ed]
      exact br_t rfl (nm_r (nI_1 st) (h1 z))
  refine ⟨vq', vq, ?_⟩
  rw [hc, hc', e1, e2]
  refine nm_e ⟨vq', vq, nm_e ?_⟩
  by_cases w : k9 = 3
  · have ne : ¬ nI q' = nI q := fun e => by
      have := (nI_eq (by omega) (by omega)).mp e
      omega
    exact br_t (by rw [w]; rfl) (br_f ne main)
  · exact br_f (fun e => w ((nI_eq (b := 3) (by omega) (by decide)).mp e)) main
/-- the beginning of a step at cell A * 48 + m -/
theorem yv_entry {post : Int32 → SY → Prop} {A m st f : Nat} {ca co x5 : Int32} (Ar : re_A cs n 0 L K P N Lv S O B) (hk : ∀ m, m < n → b_kinds m = nI (K m) ∧ K m ≤ 6) (hpa : ∀ m, 0 < m → m < n → b_parents m = nI (P m)) (hA : A ≤ 48) (hm : m < n) (hst : st < 1000000)
    (h3 : 3 ≤ K m → wY_run_203 post (wY_run_117 post (nI E) (nI (E * 5)) g_cellLimit (nI cl) (nI cm) (nI n) g_holes g_reached f) (nI E) ca co (nI 0) (nI m) (nI (A * 48 + m)) (nI (E * 5)) (nI st) (nI (K m)) (nI A) (nI (A * 48 + m)) (nI (A * 48 + (m + 1))) (nI (A * 48 + tr_e P n (m + 1))) (nI (if K m = 4 ∨ K m = 5 then 1 else 0)) g_cellLimit (nI cl) (nI cm) (nI n) g_holes g_reached b_kinds b_operands b_parents b_s b_p b_rec (re_cs E old (yw_cs T)) b_live (rn_F (yw_dn T)) (yw_fn T) (yw_vl T) (rn_F (yw_et T)) (rn_F (yw_bi T)))
    (h2 : K m < 3 → ∀ x y, wY_run_203 post (wY_run_117 post (nI E) (nI (E * 5)) g_cellLimit (nI cl) (nI cm) (nI n) g_holes g_reached f) (nI E) ca co (nI 0) (nI m) (nI (A * 48 + m)) (nI (E * 5)) (nI st) (nI (K m)) (nI A) (nI (A * 48 + m)) x y (nI 0) g_cellLimit (nI cl) (nI cm) (nI n) g_holes g_reached b_kinds b_operands b_parents b_s b_p b_rec (re_cs E old (yw_cs T)) b_live (rn_F (yw_dn T)) (yw_fn T) (yw_vl T) (rn_F (yw_et T)) (rn_F (yw_bi T))) :
    wY_run_117 post (nI E) (nI (E * 5)) g_cellLimit (nI cl) (nI cm) (nI n) g_holes g_reached (f + 1) ca co (nI 0) x5 (nI (A * 48 + m)) (nI st) b_kinds b_operands b_parents b_s b_p b_rec (re_cs E old (yw_cs T)) b_live (rn_F (yw_dn T)) (yw_fn T) (yw_vl T) (rn_F (yw_et T)) (rn_F (yw_bi T)) := by
  have hn : n ≤ 48 := by have := Ar.2.2.1; have := Ar.2.2.2.1; omega
  have em : nI (A * 48 + m) - nI (A * 48 + m) / 48 * 48 = nI m := by
    have := pk_rem (a := A * 48 + m) (d := 48) (by omega) (by decide) (by decide)
    have e : (A * 48 + m) % 48 = m := by omega
    rw [e] at this
    exact this
  have ed : nI (A * 48 + m) / 48 = nI A := by
    have := pk_div (a := A * 48 + m) (d := 48) (by omega) (by decide) (by decide)
    have e : (A * 48 + m) / 48 = A := by omega
    rw [e] at this
    exact this
  refine br_f (nI_ge (b := 1000000) hst (by decide)) (br_t rfl ⟨by decide, nm_r em ⟨vp_in_nI (by omega) (by omega), ?_⟩⟩)
  rw [nI_clamp (n := m) (by omega)]
  refine nm_r (hk m hm).1 ⟨by decide, nm_r ed ?_⟩
  by_cases k : 3 ≤ K m
  · have g := h3 k
    refine yy_kid0 Ar hpa hm (by omega) (nm_r (ru_48 A (m + 1)) (yy_kid1 Ar hpa hm k (nm_r (ru_48 A _) ?_)))
    have k6 := (hk m hm).2
    by_cases q4 : K m = 4
    · rw [if_pos (Or.inl q4)] at g
      exact br_t (by rw [q4]; rfl) g
    · refine br_f (fun e => q4 ((nI_eq (b := 4) (by omega) (by decide)).mp e)) ?_
      by_cases q5 : K m = 5
      · rw [if_pos (Or.inr q5)] at g
        exact br_t (by rw [q5]; rfl) g
      · rw [if_neg (by rintro (w | w); exact q4 w; exact q5 w)] at g
        exact br_f (fun e => q5 ((nI_eq (b := 5) (by omega) (by decide)).mp e)) g
  · refine yy_kidx (k := 0) Ar hpa hm (by decide) (fun x => nm_e (yy_kidx (k := 1) Ar hpa hm (by decide) (fun y => nm_e ?_)))
    exact br_f (fun e => by have := (nI_eq (b := 4) (by omega) (by decide)).mp e; omega) (br_f (fun e => by have := (nI_eq (b := 5) (by omega) (by decide)).mp e; omega) (h2 (by omega) _ _))
end
end
section
/-! ===== the reference: the walk keeps its rules ===== -/
section
variable {g_cellLimit g_callLimit g_closureLimit g_nodes g_holes g_reached : Int32} {b_kinds b_operands b_parents b_s b_p b_rec b_sets b_live b_done b_fn b_val b_entered b_bind : Nat → Int32}
variable {cs n L cl cm E : Nat} {K P N Lv S O B : Nat → Nat} {old : Nat → Int32}
theorem yv_R {post : Int32 → SY → Prop} (Ar : re_A cs n 0 L K P N Lv S O B) (hk : ∀ m, m < n → b_kinds m = nI (K m) ∧ K m ≤ 6) (hpa : ∀ m, 0 < m → m < n → b_parents m = nI (P m)) (hod : ∀ m, m < n → K m = 0 → b_operands m = nI (O m)) (hE : E < 2) (hcl : cl ≤ 48) (h64 : cm ≤ 64) :
    yw_R K (tr_e P n) B (tr_lc K) b_operands (ru_m K) cl cm n
      (fun b q T => ∀ st f x5, st + b < 1000000 → b < f → wY_run_117 post (nI E) (nI (E * 5)) g_cellLimit (nI cl) (nI cm) (nI n) g_holes g_reached f (nI T.1) (nI T.2.1) (nI 0) x5 (nI q) (nI st) b_kinds b_operands b_parents b_s b_p b_rec (re_cs E old (yw_cs T)) b_live (rn_F (yw_dn T)) (yw_fn T) (yw_vl T) (rn_F (yw_et T)) (rn_F (yw_bi T)))
      (fun T => ∀ x5, wY_run_857 post (nI T.1) (nI T.2.1) (if yw_fn T 0 < 0 then nI 1 else nI 2) x5 (nI (E * 5)) g_cellLimit (nI cl) (nI cm) (nI n) g_holes g_reached b_kinds b_operands b_parents b_s b_p b_rec (re_cs E old (yw_cs T)) b_live (rn_F (yw_dn T)) (yw_fn T) (yw_vl T) (rn_F (yw_et T)) (rn_F (yw_bi T)))
      (fun x T => wY_run_857 post (nI T.1) (nI T.2.1) (nI x.1) (nI x.2) (nI (E * 5)) g_cellLimit (nI cl) (nI cm) (nI n) g_holes g_reached b_kinds b_operands b_parents b_s b_p b_rec (re_cs E old (yw_cs T)) b_live (rn_F (yw_dn T)) (yw_fn T) (yw_vl T) (rn_F (yw_et T)) (rn_F (yw_bi T))) := by
  have hn : n ≤ 48 := by have := Ar.2.2.1; have := Ar.2.2.2.1; omega
  have hL : L ≤ 16 := Ar.2.2.2.2.2.1
  have hLn := Ar.2.2.2.2.1
  obtain ⟨_, F0⟩ := re_full Ar
  have lim : ∀ {s : Nat}, s < 1000000 → ¬ (1000000 : Int32) ≤ nI s := fun h => nI_ge (b := 1000000) h (by decide)
  have cell : ∀ {A m : Nat}, A ≤ 48 → m < n → A * 48 + m < 2352 := fun {A m} h1 h2 => by omega
  have vc : ∀ {q : Nat}, q < 2352 → vp_in (nI q) 2352 := fun h => vp_in_nI h (by omega)
  have rd : ∀ (g : Nat → Nat) {q : Nat}, q < 2352 → rn_F g (nI q).toNatClampNeg = nI (g q) := fun g {q} h => rn_at g (by omega)
  have kid0 : ∀ {m : Nat}, m < n → 3 ≤ K m → m + 1 < n := fun hm k => (tr_par1 Ar.1 F0 hm (by omega)).1
  have kid1 : ∀ {m : Nat}, m < n → 3 ≤ K m → tr_e P n (m + 1) < n := fun hm k => (tr_par2 Ar.1 F0 hm k).2.1
  have kid2 : ∀ {m : Nat}, m < n → K m = 6 → tr_e P n (tr_e P n (m + 1)) < n := fun hm k => (tr_par3 Ar.1 F0 hm k).2.1
  -- the ends of a step, from what the rules give
  have J0 : ∀ {f : Nat} {T : yw_S} {q st : Nat} {x y : Int32} {x5 : Int32}, 0 < f → (∀ x5, wY_run_857 post (nI T.1) (nI T.2.1) (if yw_fn (yw_fin q x y T) 0 < 0 then nI 1 else nI 2) x5 (nI (E * 5)) g_cellLimit (nI cl) (nI cm) (nI n) g_holes g_reached b_kinds b_operands b_parents b_s b_p b_rec (re_cs E old (yw_cs (yw_fin q x y T))) b_live (rn_F (yw_dn (yw_fin q x y T))) (yw_fn (yw_fin q x y T)) (yw_vl (yw_fin q x y T)) (rn_F (yw_et (yw_fin q x y T))) (rn_F (yw_bi (yw_fin q x y T)))) → q = 0 → ∀ x4 : Int32, x4 = (if x < 0 then nI 1 else nI 2) → wY_run_117 post (nI E) (nI (E * 5)) g_cellLimit (nI cl) (nI cm) (nI n) g_holes g_reached f (nI T.1) (nI T.2.1) x4 x5 (nI 0) (nI (st + 1)) b_kinds b_operands b_parents b_s b_p b_rec (re_cs E old (yw_cs (yw_fin q x y T))) b_live (rn_F (yw_dn (yw_fin q x y T))) (yw_fn (yw_fin q x y T)) (yw_vl (yw_fin q x y T)) (rn_F (yw_et (yw_fin q x y T))) (rn_F (yw_bi (yw_fin q x y T))) := by
    intro f T q st x y x5 hf H hq x4 e4
    obtain ⟨f, rfl⟩ : ∃ f', f = f' + 1 := ⟨f - 1, by omega⟩
    have e0 : yw_fn (yw_fin q x y T) 0 = x := by
      show (if 0 = q then x else yw_fn T 0) = x
      rw [if_pos hq.symm]
    rw [e0] at H
    have ne : ¬ x4 = 0 := by
      rw [e4]
      by_cases w : x < 0
      · rw [if_pos w]; decide
      · rw [if_neg w]; decide
    rw [← e4] at H
    exact br_c (fun _ => H _) (fun _ => br_f ne (H _))
  -- a stuck cell, a limit
  have X : ∀ {x1 : Nat} {m : Nat} {T : yw_S} {A' B' C' D' E' F' G' H' I' x2 x3 x6 x7 : Int32} {J}, (x1 = 3 ∨ x1 = 4 ∨ x1 = 5) → wY_run_857 post (nI T.1) (nI T.2.1) (nI x1) (nI m) (nI (E * 5)) g_cellLimit (nI cl) (nI cm) (nI n) g_holes g_reached b_kinds b_operands b_parents b_s b_p b_rec (re_cs E old (yw_cs T)) b_live (rn_F (yw_dn T)) (yw_fn T) (yw_vl T) (rn_F (yw_et T)) (rn_F (yw_bi T)) → wY_run_456 post J A' (nI T.1) (nI T.2.1) (nI x1) (nI m) B' (nI (E * 5)) C' D' E' F' G' H' I' g_cellLimit (nI cl) (nI cm) (nI n) g_holes g_reached b_kinds b_operands b_parents b_s b_p b_rec (re_cs E old (yw_cs T)) b_live (rn_F (yw_dn T)) (yw_fn T) (yw_vl T) (rn_F (yw_et T)) (rn_F (yw_bi T)) := by
    intro x1 m T A' B' C' D' E' F' G' H' I' x2 x3 x6 x7 J h H
    exact br_f (nI_ne0 (by omega) (by omega)) H
  refine ⟨?_, ?_, ?_, ?_, ?_, ?_, ?_, ?_, ?_, ?_, ?_, ?_, ?_, ?_, ?_, ?_, ?_⟩
  · intro b d q T H st f x5 h1 h2
    exact H st f x5 (by omega) (by omega)
  · -- to the first child
    intro b A m T hA hm k d0 H st f x5 h1 h2
    obtain ⟨f, rfl⟩ : ∃ f', f = f' + 1 := ⟨f - 1, by omega⟩
    refine yv_entry Ar hk hpa hA hm (by omega) (fun _ => ?_) (fun w => by omega)
    have c1 := cell hA (kid0 hm k)
    have k6 := (hk m hm).2
    have a247 : ∀ x13 x14, wY_run_247 post (wY_run_117 post (nI E) (nI (E * 5)) g_cellLimit (nI cl) (nI cm) (nI n) g_holes g_reached f) (nI E) (nI T.1) (nI T.2.1) (nI 0) (nI m) (nI (A * 48 + m)) (nI (E * 5)) (nI st) (nI (K m)) (nI A) (nI (A * 48 + m)) (nI (A * 48 + (m + 1))) x13 x14 g_cellLimit (nI cl) (nI cm) (nI n) g_holes g_reached b_kinds b_operands b_parents b_s b_p b_rec (re_cs E old (yw_cs T)) b_live (rn_F (yw_dn T)) (yw_fn T) (yw_vl T) (rn_F (yw_et T)) (rn_F (yw_bi T)) := fun x13 x14 => by
      refine br_f (nI_nlt (b := 3) k (by omega)) ⟨vc c1, ?_⟩
      rw [rd _ c1, d0]
      exact br_t rfl (nm_r (nI_1 st) (H (st + 1) f _ (by omega) (by omega)))
    by_cases q6 : K m = 6
    · refine br_t (by rw [q6]; rfl) ⟨vc c1, ?_⟩
      rw [rd _ c1, d0]
      exact br_t rfl (a247 _ _)
    · exact br_f (fun e => q6 ((nI_eq (b := 6) (by omega) (by decide)).mp e)) (a247 _ _)
  · -- to the second child
    intro b A m T hA hm k q6 d1 d0 H st f x5 h1 h2
    obtain ⟨f, rfl⟩ : ∃ f', f = f' + 1 := ⟨f - 1, by omega⟩
    refine yv_entry Ar hk hpa hA hm (by omega) (fun _ => ?_) (fun w => by omega)
    have c1 := cell hA (kid0 hm k)
    have c2 := cell hA (kid1 hm k)
    have k6 := (hk m hm).2
    have n6 : ¬ nI (K m) = 6 := fun e => q6 ((nI_eq (b := 6) (by omega) (by decide)).mp e)
    have n3 : ¬ nI (K m) < 3 := nI_nlt (b := 3) k (by omega)
    refine br_f n6 (br_f n3 ⟨vc c1, ?_⟩)
    rw [rd _ c1, d1]
    refine br_f (by decide) (br_f n3 ⟨vc c2, ?_⟩)
    rw [rd _ c2, d0]
    exact br_t rfl (br_f n6 (nm_r (nI_1 st) (H (st + 1) f _ (by omega) (by omega))))
  · -- to a branch
    intro b A m T i hA hm q6 d1 f1 v1 d0 H st f x5 h1 h2
    obtain ⟨f, rfl⟩ : ∃ f', f = f' + 1 := ⟨f - 1, by omega⟩
    refine yv_entry Ar hk hpa hA hm (by omega) (fun _ => ?_) (fun w => by omega)
    have c1 := cell hA (kid0 hm (by omega))
    have c2 := cell hA (kid1 hm (by omega))
    have c3 := cell hA (kid2 hm q6)
    have hc1 := nI_clamp (n := A * 48 + (m + 1)) (by omega)
    have a247 : ∀ (q : Nat) (x14 : Int32), q = A * 48 + (if i = 0 then tr_e P n (m + 1) else tr_e P n (tr_e P n (m + 1))) → q < 2352 → wY_run_247 post (wY_run_117 post (nI E) (nI (E * 5)) g_cellLimit (nI cl) (nI cm) (nI n) g_holes g_reached f) (nI E) (nI T.1) (nI T.2.1) (nI 0) (nI m) (nI (A * 48 + m)) (nI (E * 5)) (nI st) (nI 6) (nI A) (nI (A * 48 + m)) (nI (A * 48 + (m + 1))) (nI q) x14 g_cellLimit (nI cl) (nI cm) (nI n) g_holes g_reached b_kinds b_operands b_parents b_s b_p b_rec (re_cs E old (yw_cs T)) b_live (rn_F (yw_dn T)) (yw_fn T) (yw_vl T) (rn_F (yw_et T)) (rn_F (yw_bi T)) := fun q x14 eq hq => by
      subst eq
      refine br_f (by decide) ⟨vc c1, ?_⟩
      rw [rd _ c1, d1]
      refine br_f (by decide) (br_f (by decide) ⟨vc hq, ?_⟩)
      rw [rd _ hq, d0, hc1, f1]
      exact br_t rfl (br_t rfl ⟨vc c1, br_f (by decide) (nm_r (nI_1 st) (H (st + 1) f _ (by omega) (by omega)))⟩)
    rw [q6]
    refine br_t rfl ⟨vc c1, ?_⟩
    rw [rd _ c1, d1, hc1, v1]
    refine br_f (by decide) ⟨vc c1, ?_⟩
    by_cases z : i = 0
    · exact br_t z (a247 _ _ (by rw [if_pos z]) c2)
    · refine br_f z (yy_kid2 Ar hpa hm q6 (nm_r (ru_48 A _) (a247 _ _ (by rw [if_neg z]) c3)))
  · -- to a body
    intro b A m T q hA hm q3 d1 d2 et q0 q1 d0 H st f x5 h1 h2
    obtain ⟨f, rfl⟩ : ∃ f', f = f' + 1 := ⟨f - 1, by omega⟩
    refine yv_entry Ar hk hpa hA hm (by omega) (fun _ => ?_) (fun w => by omega)
    have c0 := cell hA hm
    have c1 := cell hA (kid0 hm (by omega))
    have c2 := cell hA (kid1 hm (by omega))
    rw [q3]
    refine br_f (by decide) (br_f (by decide) ⟨vc c1, ?_⟩)
    rw [rd _ c1, d1]
    refine br_f (by decide) (br_f (by decide) ⟨vc c2, ?_⟩)
    rw [rd _ c2, d2]
    refine br_f (by decide) (br_t rfl ⟨vc c0, ?_⟩)
    rw [rd _ c0, et, rd _ q1, d0]
    exact br_f (nI_nle q0 (by omega)) ⟨vc c0, vc q1, br_t rfl ⟨vc c0, nm_e (nm_r (nI_1 st) (H (st + 1) f _ (by omega) (by omega)))⟩⟩
  · -- VAR
    intro b A m T q hA hm k hz eb hq H st f x5 h1 h2
    obtain ⟨f, rfl⟩ : ∃ f', f = f' + 1 := ⟨f - 1, by omega⟩
    refine yv_entry Ar hk hpa hA hm (by omega) (fun w => by omega) (fun _ x y => ?_)
    have c0 := cell hA hm
    have hB : B m < 16 := by
      obtain ⟨a1, b', b1, b2, b3, b4, b5⟩ := Ar.2.2.2.2.2.2.2.2.2.2 m hm k
      have := tr_lc_lt (show b' < n by omega) b2
      omega
    rw [k]
    refine br_f (by decide) (br_t (by decide) (br_t (by decide) (br_f (by decide) (br_f (by decide) (br_t (by decide) (br_t rfl (br_f (by decide) (br_f (by decide) (br_t rfl (br_f (by decide) (br_t rfl (br_f (by decide) (br_t rfl ?_)))))))))))))
    refine yy_look Ar hk hpa hod hm (fun e => absurd e (by decide)) (fun e => absurd e (by decide)) (fun e => absurd e (by decide)) (fun _ => ⟨fun _ => ?_, fun w => by omega, fun w => absurd k w⟩) (fun e => by rcases e with e | e <;> exact absurd e (by decide))
    have e16 : nI A * 16 + nI (B m) = nI (A * 16 + B m) := by
      show nI A * nI 16 + nI (B m) = _
      rw [pk_mul, nI_add]
    rw [e16, rn_at (yw_bi T) (show A * 16 + B m < 2 ^ 31 by omega), eb]
    refine ⟨vp_in_nI (by omega) (by omega), nm_e (br_f (by decide) (br_f (by decide) (br_f (by decide) ?_)))⟩
    exact yv_770 (k9 := 0) c0 hq (by omega) (Or.inl (by omega)) (fun _ => rfl) (fun _ => rfl) hz (fun w => J0 (by omega) (H.1 w) w) (fun w => H.2 w (st + 1) f _ (by omega) (by omega))
  · -- NUM
    intro b A m T hA hm k hz H st f x5 h1 h2
    obtain ⟨f, rfl⟩ : ∃ f', f = f' + 1 := ⟨f - 1, by omega⟩
    refine yv_entry Ar hk hpa hA hm (by omega) (fun w => by omega) (fun _ x y => ?_)
    have c0 := cell hA hm
    rw [k]
    refine br_f (by decide) (br_t (by decide) (br_t (by decide) (br_f (by decide) (br_f (by decide) (br_t (by decide) (br_t rfl (br_f (by decide) (br_f (by decide) (br_t rfl (br_t rfl ⟨vc c0, nm_e ⟨vp_in_nI (by omega) (by omega), vc c0, nm_e ?_⟩⟩))))))))))
    rw [nI_clamp (n := A * 48 + m) (by omega), nI_clamp (n := m) (by omega)]
    refine br_t rfl (br_f (by decide) (br_f (by decide) (br_f (by decide) (br_f (by decide) (br_f (by decide) ?_)))))
    refine yv_770 (k9 := 1) c0 c0 (by omega) (Or.inl (by omega)) (fun _ => re_uu) (fun _ => re_uu) hz (fun w => ?_) (fun w => ?_)
    · rw [re_us, re_us]
      exact J0 (by omega) (H.1 w) w
    · rw [re_us, re_us]
      exact H.2 w (st + 1) f _ (by omega) (by omega)
  · -- LAM at the limit
    intro b A m T hA hm k hc H st f x5 h1 h2
    obtain ⟨f, rfl⟩ : ∃ f', f = f' + 1 := ⟨f - 1, by omega⟩
    refine yv_entry Ar hk hpa hA hm (by omega) (fun w => by omega) (fun _ x y => ?_)
    rw [k]
    refine br_f (by decide) (br_t (by decide) (br_t (by decide) (br_f (by decide) (br_f (by decide) (br_t (by decide) (br_t rfl (br_f (by decide) (br_t rfl (br_t (by rw [hc]) ?_)))))))))
    exact br_f (by decide) H
  · -- LAM
    intro b A m T hA hm k hz hc H st f x5 h1 h2
    obtain ⟨f, rfl⟩ : ∃ f', f = f' + 1 := ⟨f - 1, by omega⟩
    refine yv_entry Ar hk hpa hA hm (by omega) (fun w => by omega) (fun _ x y => ?_)
    have c0 := cell hA hm
    have ne : ¬ nI T.2.1 = nI cm := fun e => by
      have := (nI_eq (by omega) (by omega)).mp e
      omega
    rw [k]
    refine br_f (by decide) (br_t (by decide) (br_t (by decide) (br_f (by decide) (br_f (by decide) (br_t (by decide) (br_t rfl (br_f (by decide) (br_t rfl (br_f ne (br_t rfl (br_f (by decide) (br_t rfl (br_t rfl (nm_r (nI_1 _) ?_))))))))))))))
    refine yy_look Ar hk hpa hod hm (fun e => absurd e (by decide)) (fun e => absurd e (by decide)) (fun e => absurd e (by decide)) (fun _ => ⟨fun w => by omega, fun _ => ?_, fun _ w => absurd k w⟩) (fun e => by rcases e with e | e <;> exact absurd e (by decide))
    refine ⟨vc c0, nm_e ⟨vc c0, nm_e ?_⟩⟩
    rw [nI_clamp (n := A * 48 + m) (by omega)]
    refine br_f (by decide) (br_f (by decide) (br_f (by decide) (br_f (by decide) ?_)))
    refine yv_770 (T := yw_inc T) (k9 := 2) c0 c0 (by omega) (Or.inl (by omega)) (fun _ => re_uu) (fun _ => re_uu) hz (fun w => ?_) (fun w => ?_)
    · rw [re_us, re_us]
      exact J0 (T := yw_inc T) (by omega) (H.1 w) w
    · rw [re_us, re_us]
      exact H.2 w (st + 1) f _ (by omega) (by omega)
  · -- IF0 on a closure
    intro b A m T l hA hm q6 d1 f1 hl H st f x5 h1 h2
    obtain ⟨f, rfl⟩ : ∃ f', f = f' + 1 := ⟨f - 1, by omega⟩
    refine yv_entry Ar hk hpa hA hm (by omega) (fun _ => ?_) (fun w => by omega)
    have c1 := cell hA (kid0 hm (by omega))
    have c2 := cell hA (kid1 hm (by omega))
    have c3 := cell hA (kid2 hm q6)
    have hc1 := nI_clamp (n := A * 48 + (m + 1)) (by omega)
    have a310 : ∀ (q : Nat) , wY_run_310 post (wY_run_117 post (nI E) (nI (E * 5)) g_cellLimit (nI cl) (nI cm) (nI n) g_holes g_reached f) (nI E) (nI T.1) (nI T.2.1) (nI 0) (nI m) (nI (A * 48 + m)) (nI (E * 5)) (nI st) (nI 6) (nI A) (nI (A * 48 + m)) (nI (A * 48 + (m + 1))) (nI q) (nI 0) g_cellLimit (nI cl) (nI cm) (nI n) g_holes g_reached b_kinds b_operands b_parents b_s b_p b_rec (re_cs E old (yw_cs T)) b_live (rn_F (yw_dn T)) (yw_fn T) (yw_vl T) (rn_F (yw_et T)) (rn_F (yw_bi T)) := fun q => by
      refine br_f (by decide) (br_f (by decide) (br_f (by decide) ⟨vc c1, ?_⟩))
      rw [hc1, f1]
      exact br_t (nI_pos' (by omega)) (br_f (by decide) H)
    have a247 : ∀ (q : Nat), q < 2352 → wY_run_247 post (wY_run_117 post (nI E) (nI (E * 5)) g_cellLimit (nI cl) (nI cm) (nI n) g_holes g_reached f) (nI E) (nI T.1) (nI T.2.1) (nI 0) (nI m) (nI (A * 48 + m)) (nI (E * 5)) (nI st) (nI 6) (nI A) (nI (A * 48 + m)) (nI (A * 48 + (m + 1))) (nI q) (nI 0) g_cellLimit (nI cl) (nI cm) (nI n) g_holes g_reached b_kinds b_operands b_parents b_s b_p b_rec (re_cs E old (yw_cs T)) b_live (rn_F (yw_dn T)) (yw_fn T) (yw_vl T) (rn_F (yw_et T)) (rn_F (yw_bi T)) := fun q hq => by
      refine br_f (by decide) ⟨vc c1, ?_⟩
      rw [rd _ c1, d1]
      refine br_f (by decide) (br_f (by decide) ⟨vc hq, br_c (fun _ => br_t rfl ⟨vc c1, ?_⟩) (fun _ => a310 q)⟩)
      rw [hc1, f1]
      exact br_t (nI_pos' (by omega)) (a310 q)
    rw [if_neg (by omega), q6]
    refine br_t rfl ⟨vc c1, ?_⟩
    rw [rd _ c1, d1]
    refine br_f (by decide) ⟨vc c1, br_c (fun _ => a247 _ c2) (fun _ => ?_)⟩
    exact yy_kid2 Ar hpa hm q6 (nm_r (ru_48 A _) (a247 _ c3))
  · -- IF0
    intro b A m T i q hA hm q6 hz d1 f1 v1 eq dq H st f x5 h1 h2
    obtain ⟨f, rfl⟩ : ∃ f', f = f' + 1 := ⟨f - 1, by omega⟩
    refine yv_entry Ar hk hpa hA hm (by omega) (fun _ => ?_) (fun w => by omega)
    have c0 := cell hA hm
    have c1 := cell hA (kid0 hm (by omega))
    have c2 := cell hA (kid1 hm (by omega))
    have c3 := cell hA (kid2 hm q6)
    have hc1 := nI_clamp (n := A * 48 + (m + 1)) (by omega)
    have hq : q < 2352 := by
      by_cases z : i = 0
      · rw [if_pos z] at eq; omega
      · rw [if_neg z] at eq; omega
    have a247 : wY_run_247 post (wY_run_117 post (nI E) (nI (E * 5)) g_cellLimit (nI cl) (nI cm) (nI n) g_holes g_reached f) (nI E) (nI T.1) (nI T.2.1) (nI 0) (nI m) (nI (A * 48 + m)) (nI (E * 5)) (nI st) (nI 6) (nI A) (nI (A * 48 + m)) (nI (A * 48 + (m + 1))) (nI q) (nI 0) g_cellLimit (nI cl) (nI cm) (nI n) g_holes g_reached b_kinds b_operands b_parents b_s b_p b_rec (re_cs E old (yw_cs T)) b_live (rn_F (yw_dn T)) (yw_fn T) (yw_vl T) (rn_F (yw_et T)) (rn_F (yw_bi T)) := by
      refine br_f (by decide) ⟨vc c1, ?_⟩
      rw [rd _ c1, d1]
      refine br_f (by decide) (br_f (by decide) ⟨vc hq, ?_⟩)
      rw [rd _ hq, dq]
      refine br_f (by decide) (br_f (by decide) (br_f (by decide) (br_f (by decide) ⟨vc c1, ?_⟩)))
      rw [hc1, f1]
      refine br_f (by decide) (br_t rfl (br_f (by decide) (br_f (by decide) (br_t rfl (br_f (by decide) (br_t rfl (br_f (by decide) (br_f (by decide) (br_t rfl (br_f (by decide) (br_f (by decide) ?_)))))))))))
      exact yv_770 (k9 := 6) c0 hq (by omega) (Or.inl (by omega)) (fun _ => rfl) (fun _ => rfl) hz (fun w => J0 (by omega) (H.1 w) w) (fun w => H.2 w (st + 1) f _ (by omega) (by omega))
    rw [if_neg (by omega), q6]
    refine br_t rfl ⟨vc c1, ?_⟩
    rw [rd _ c1, d1, hc1, v1]
    refine br_f (by decide) ⟨vc c1, ?_⟩
    by_cases z : i = 0
    · rw [if_pos z] at eq
      rw [← eq]
      exact br_t z a247
    · rw [if_neg z] at eq
      refine br_f z (yy_kid2 Ar hpa hm q6 (nm_r (ru_48 A _) ?_))
      rw [← eq]
      exact a247
  · -- ADD, SUB
    intro b A m T hA hm k hz d1 d2 f1 f2 H st f x5 h1 h2
    obtain ⟨f, rfl⟩ : ∃ f', f = f' + 1 := ⟨f - 1, by omega⟩
    refine yv_entry Ar hk hpa hA hm (by omega) (fun _ => ?_) (fun w => by omega)
    have c0 := cell hA hm
    have c1 := cell hA (kid0 hm (by omega))
    have c2 := cell hA (kid1 hm (by omega))
    have hc0 := nI_clamp (n := A * 48 + m) (by omega)
    have hc1 := nI_clamp (n := A * 48 + (m + 1)) (by omega)
    have hc2 := nI_clamp (n := A * 48 + tr_e P n (m + 1)) (by omega)
    rw [if_pos k]
    have n6 : ¬ nI (K m) = 6 := by rcases k with q | q <;> rw [q] <;> decide
    have n3 : ¬ nI (K m) = 3 := by rcases k with q | q <;> rw [q] <;> decide
    have l3 : ¬ nI (K m) < 3 := by rcases k with q | q <;> rw [q] <;> decide
    have l4 : ¬ nI (K m) < 4 := by rcases k with q | q <;> rw [q] <;> decide
    have n2 : ¬ nI (K m) = 2 := by rcases k with q | q <;> rw [q] <;> decide
    have n1 : ¬ nI (K m) = 1 := by rcases k with q | q <;> rw [q] <;> decide
    have n0 : ¬ nI (K m) = 0 := by rcases k with q | q <;> rw [q] <;> decide
    refine br_f n6 (br_f l3 ⟨vc c1, ?_⟩)
    rw [rd _ c1, d1]
    refine br_f (by decide) (br_f l3 ⟨vc c2, ?_⟩)
    rw [rd _ c2, d2]
    refine br_f (by decide) (br_f n3 (br_f n3 (br_f l4 ⟨vc c1, ?_⟩)))
    rw [hc1, f1]
    refine br_f (by decide) (br_f (by decide) ⟨vc c2, ?_⟩)
    rw [hc2, f2]
    refine br_t (by decide) (br_f n3 (br_f n2 (br_t rfl (br_f n1 (br_f (by decide) ⟨vc c0, nm_e ?_⟩)))))
    rw [hc0, hc1, hc2]
    have rest : ∀ vv : Int32, vv = (if K m = 4 then yw_vl T (A * 48 + (m + 1)) + yw_vl T (A * 48 + tr_e P n (m + 1)) else yw_vl T (A * 48 + (m + 1)) - yw_vl T (A * 48 + tr_e P n (m + 1))) → wY_run_550 post (wY_run_117 post (nI E) (nI (E * 5)) g_cellLimit (nI cl) (nI cm) (nI n) g_holes g_reached f) (nI E) (nI T.1) (nI T.2.1) (nI 0) (nI m) (nI (A * 48 + m)) (nI (E * 5)) (nI st) (nI (K m)) (nI A) (nI (A * 48 + m)) (nI (A * 48 + (m + 1))) (nI (A * 48 + tr_e P n (m + 1))) vv (nI (A * 48 + m)) g_cellLimit (nI cl) (nI cm) (nI n) g_holes g_reached b_kinds b_operands b_parents b_s b_p b_rec (re_cs E old (yw_cs T)) b_live (rn_F (yw_dn T)) (upd (yw_fn T) (A * 48 + m) (-1)) (yw_vl T) (rn_F (yw_et T)) (rn_F (yw_bi T)) := fun vv ev => by
      refine ⟨vc c0, nm_e ?_⟩
      rw [hc0]
      refine br_f n2 (br_f n0 (br_f n6 (br_f n3 (br_f n3 ?_))))
      refine yv_770 c0 c0 (hk m hm).2 (Or.inl (by omega)) (fun _ => re_uu) (fun _ => re_uu) hz (fun w => ?_) (fun w => ?_)
      · rw [re_us, re_us, ev]
        exact J0 (by omega) (H.1 w) w
      · rw [re_us, re_us, ev]
        exact H.2 w (st + 1) f _ (by omega) (by omega)
    by_cases q4 : K m = 4
    · exact br_t (by rw [q4]; rfl) ⟨vc c1, vc c2, rest _ (if_pos q4).symm⟩
    · exact br_f (fun e => q4 ((nI_eq (b := 4) (by omega) (by decide)).mp e)) ⟨vc c1, vc c2, rest _ (if_neg q4).symm⟩
  · -- ADD, SUB on a closure
    intro b A m T hA hm k d1 d2 hs H st f x5 h1 h2
    obtain ⟨f, rfl⟩ : ∃ f', f = f' + 1 := ⟨f - 1, by omega⟩
    refine yv_entry Ar hk hpa hA hm (by omega) (fun _ => ?_) (fun w => by omega)
    have c1 := cell hA (kid0 hm (by omega))
    have c2 := cell hA (kid1 hm (by omega))
    have hc1 := nI_clamp (n := A * 48 + (m + 1)) (by omega)
    have hc2 := nI_clamp (n := A * 48 + tr_e P n (m + 1)) (by omega)
    rw [if_pos k]
    have n6 : ¬ nI (K m) = 6 := by rcases k with q | q <;> rw [q] <;> decide
    have n3 : ¬ nI (K m) = 3 := by rcases k with q | q <;> rw [q] <;> decide
    have l3 : ¬ nI (K m) < 3 := by rcases k with q | q <;> rw [q] <;> decide
    have l4 : ¬ nI (K m) < 4 := by rcases k with q | q <;> rw [q] <;> decide
    refine br_f n6 (br_f l3 ⟨vc c1, ?_⟩)
    rw [rd _ c1, d1]
    refine br_f (by decide) (br_f l3 ⟨vc c2, ?_⟩)
    rw [rd _ c2, d2]
    refine br_f (by decide) (br_f n3 (br_f n3 (br_f l4 ⟨vc c1, ?_⟩)))
    rw [hc1]
    rcases hs with ⟨l, hl, e⟩ | ⟨e0, l, hl, e⟩
    · rw [e]
      exact br_t (nI_pos' (by omega)) (br_f (by decide) H)
    · rw [e0]
      refine br_f (by decide) (br_f (by decide) ⟨vc c2, ?_⟩)
      rw [hc2, e]
      exact br_f (nI_pos (by omega)) (br_f (by decide) H)
  · -- APP of a number
    intro b A m T hA hm q3 d1 d2 et f1 H st f x5 h1 h2
    obtain ⟨f, rfl⟩ : ∃ f', f = f' + 1 := ⟨f - 1, by omega⟩
    refine yv_entry Ar hk hpa hA hm (by omega) (fun _ => ?_) (fun w => by omega)
    have c0 := cell hA hm
    have c1 := cell hA (kid0 hm (by omega))
    have c2 := cell hA (kid1 hm (by omega))
    have hc1 := nI_clamp (n := A * 48 + (m + 1)) (by omega)
    rw [if_neg (by omega), q3]
    refine br_f (by decide) (br_f (by decide) ⟨vc c1, ?_⟩)
    rw [rd _ c1, d1]
    refine br_f (by decide) (br_f (by decide) ⟨vc c2, ?_⟩)
    rw [rd _ c2, d2]
    refine br_f (by decide) (br_t rfl ⟨vc c0, ?_⟩)
    rw [rd _ c0, et]
    refine br_t (by decide) (br_t rfl ⟨vc c1, ?_⟩)
    rw [hc1, f1]
    exact br_f (by decide) (br_f (by decide) H)
  · -- APP at the limit
    intro b A m T l hA hm q3 d1 d2 et f1 hl hc H st f x5 h1 h2
    obtain ⟨f, rfl⟩ : ∃ f', f = f' + 1 := ⟨f - 1, by omega⟩
    refine yv_entry Ar hk hpa hA hm (by omega) (fun _ => ?_) (fun w => by omega)
    have c0 := cell hA hm
    have c1 := cell hA (kid0 hm (by omega))
    have c2 := cell hA (kid1 hm (by omega))
    have hc1 := nI_clamp (n := A * 48 + (m + 1)) (by omega)
    rw [if_neg (by omega), q3]
    refine br_f (by decide) (br_f (by decide) ⟨vc c1, ?_⟩)
    rw [rd _ c1, d1]
    refine br_f (by decide) (br_f (by decide) ⟨vc c2, ?_⟩)
    rw [rd _ c2, d2]
    refine br_f (by decide) (br_t rfl ⟨vc c0, ?_⟩)
    rw [rd _ c0, et]
    refine br_t (by decide) (br_t rfl ⟨vc c1, ?_⟩)
    rw [hc1, f1]
    refine br_t (nI_pos' (by omega)) (br_t rfl ⟨vc c0, ?_⟩)
    rw [rd _ c0, et]
    exact br_t rfl (br_t (by rw [hc]) (br_f (by decide) H))
  · -- a call
    intro b A m T p A' hA hm q3 d1 d2 et hp kp f1 v1 hA' hc dz dm H st f x5 h1 h2
    obtain ⟨f, rfl⟩ : ∃ f', f = f' + 1 := ⟨f - 1, by omega⟩
    refine yv_entry Ar hk hpa hA hm (by omega) (fun _ => ?_) (fun w => by omega)
    have c0 := cell hA hm
    have c1 := cell hA (kid0 hm (by omega))
    have c2 := cell hA (kid1 hm (by omega))
    have hc0 := nI_clamp (n := A * 48 + m) (by omega)
    have hc1 := nI_clamp (n := A * 48 + (m + 1)) (by omega)
    have lp := tr_lc_lt hp kp
    have hl : tr_lc K p < 16 := by omega
    have ncl : ¬ nI T.1 = nI cl := fun e => by
      have := (nI_eq (by omega) (by omega)).mp e
      omega
    have m16 : ∀ a b : Nat, nI a * 16 + nI b = nI (a * 16 + b) := fun a b => by
      show nI a * nI 16 + nI b = _
      rw [pk_mul, nI_add]
    rw [if_neg (by omega), q3]
    refine br_f (by decide) (br_f (by decide) ⟨vc c1, ?_⟩)
    rw [rd _ c1, d1]
    refine br_f (by decide) (br_f (by decide) ⟨vc c2, ?_⟩)
    rw [rd _ c2, d2]
    refine br_f (by decide) (br_t rfl ⟨vc c0, ?_⟩)
    rw [rd _ c0, et]
    refine br_t (by decide) (br_t rfl ⟨vc c1, ?_⟩)
    rw [hc1, f1]
    refine br_t (nI_pos' (by omega)) (br_t rfl ⟨vc c0, ?_⟩)
    rw [rd _ c0, et]
    refine br_t rfl (br_f ncl (br_f (by decide) (br_t rfl (br_f (by decide) (br_t rfl (br_f (by decide) (br_f (by decide) (br_f (by decide) (br_t rfl ⟨vc c0, ?_⟩)))))))))
    rw [rd _ c0, et]
    refine br_t (by decide) (br_t rfl (nm_r (nI_1 T.1) ⟨17, ?_⟩))
    have go : ∀ d i f', i + d = 16 → d < f' → wY_run_659 post (wY_run_117 post (nI E) (nI (E * 5)) g_cellLimit (nI cl) (nI cm) (nI n) g_holes g_reached f) (nI E) (nI (T.1 + 1)) (nI T.2.1) (nI 0) (nI m) (nI (A * 48 + m)) (nI (E * 5)) (nI st) (nI 3) (nI (A * 48 + m)) (nI (A * 48 + (m + 1))) (nI (A * 48 + tr_e P n (m + 1))) g_cellLimit (nI cl) (nI cm) (nI n) g_holes g_reached f' (nI i) b_kinds b_operands b_parents b_s b_p b_rec (re_cs E old (yw_cs T)) b_live (rn_F (yw_dn T)) (yw_fn T) (yw_vl T) (rn_F (yw_et T)) (rn_F (fun j => if (T.1 + 1) * 16 ≤ j ∧ j < (T.1 + 1) * 16 + i then yw_bi T (A' * 16 + (j - (T.1 + 1) * 16)) else yw_bi T j)) := by
      intro d
      induction d with
      | zero =>
        intro i f' hi hf'
        obtain ⟨f', rfl⟩ : ∃ f'', f' = f'' + 1 := ⟨f' - 1, by omega⟩
        have e : i = 16 := by omega
        subst e
        refine br_t (by decide) ⟨vc c1, ?_⟩
        rw [hc1, f1, m16, nI_clamp (n := (T.1 + 1) * 16 + tr_lc K p) (by omega), rn_put, ru_48, nI_clamp (n := E * 48 + m) (by omega), re_cs_at E old _ (show m < 48 by omega), re_cs_put E old _ (show m < 48 by omega)]
        refine ⟨vp_in_nI (by omega) (by omega), nm_e ⟨vp_in_nI (by omega) (by omega), vc c1, vp_in_nI (by omega) (by omega), nm_e ⟨vc c1, ?_⟩⟩⟩
        refine yy_lambdaNode hn hk (fun a ha ka ea => ⟨vc c0, ?_⟩) (fun w => absurd rfl (w p hp kp))
        have la := tr_lc_lt ha ka
        have ep : a = p := tr_lc_inj ka kp ((nI_eq (by omega) (by omega)).mp ea).symm
        subst ep
        rw [ru_48, nI_1, hc0, rn_put]
        refine nm_e ⟨vc c0, vc c0, ?_⟩
        have uf : upd (yw_fn T) (A * 48 + m) (yw_fn T (A * 48 + m)) = yw_fn T := by
          funext j
          unfold upd
          by_cases z : j = A * 48 + m
          · rw [if_pos z, z]
          · rw [if_neg z]
        have uv : upd (yw_vl T) (A * 48 + m) (yw_vl T (A * 48 + m)) = yw_vl T := by
          funext j
          unfold upd
          by_cases z : j = A * 48 + m
          · rw [if_pos z, z]
          · rw [if_neg z]
        have ud : rn_F (tr_put (yw_dn T) (A * 48 + m) 0) = rn_F (yw_dn T) := by
          funext j
          show nI (tr_put (yw_dn T) (A * 48 + m) 0 j) = nI (yw_dn T j)
          by_cases z : j = A * 48 + m
          · rw [z, tr_put_s, dm]
          · rw [tr_put_n _ _ z]
        rw [hc0, uf, uv]
        refine nm_e ⟨vc c0, vc c0, nm_e (br_t rfl (br_t rfl ⟨vc c0, ?_⟩))⟩
        rw [hc0, yv_b.2, rn_put, ud]
        have d0 : rn_F (yw_dn T) 0 = nI 0 := by
          show nI (yw_dn T 0) = nI 0
          rw [dz]
        refine nm_e ?_
        rw [d0]
        have fin := H (st + 1) f (nI m) (by omega) (by omega)
        have eb : (fun j => if j = (T.1 + 1) * 16 + tr_lc K a then A * 48 + tr_e P n (m + 1) else if (T.1 + 1) * 16 ≤ j ∧ j < (T.1 + 1) * 16 + 16 then yw_bi T (A' * 16 + (j - (T.1 + 1) * 16)) else yw_bi T j) = tr_put (fun j => if (T.1 + 1) * 16 ≤ j ∧ j < (T.1 + 1) * 16 + 16 then yw_bi T (A' * 16 + (j - (T.1 + 1) * 16)) else yw_bi T j) ((T.1 + 1) * 16 + tr_lc K a) (A * 48 + tr_e P n (m + 1)) := rfl
        exact br_t rfl (nm_r (nI_1 st) fin)
      | succ d ih =>
        intro i f' hi hf'
        obtain ⟨f', rfl⟩ : ∃ f'', f' = f'' + 1 := ⟨f' - 1, by omega⟩
        refine br_f (nI_ge (b := 16) (by omega) (by decide)) ⟨vc c1, ?_⟩
        rw [hc1, v1, m16, m16, nI_clamp (n := A' * 16 + i) (by omega), nI_clamp (n := (T.1 + 1) * 16 + i) (by omega)]
        refine ⟨vp_in_nI (by omega) (by omega), vp_in_nI (by omega) (by omega), ?_⟩
        have rdv : rn_F (fun j => if (T.1 + 1) * 16 ≤ j ∧ j < (T.1 + 1) * 16 + i then yw_bi T (A' * 16 + (j - (T.1 + 1) * 16)) else yw_bi T j) (A' * 16 + i) = nI (yw_bi T (A' * 16 + i)) := by
          show nI (if (T.1 + 1) * 16 ≤ A' * 16 + i ∧ A' * 16 + i < (T.1 + 1) * 16 + i then _ else _) = _
          rw [if_neg (by omega)]
        rw [rdv, rn_put]
        have eg : tr_put (fun j => if (T.1 + 1) * 16 ≤ j ∧ j < (T.1 + 1) * 16 + i then yw_bi T (A' * 16 + (j - (T.1 + 1) * 16)) else yw_bi T j) ((T.1 + 1) * 16 + i) (yw_bi T (A' * 16 + i)) = (fun j => if (T.1 + 1) * 16 ≤ j ∧ j < (T.1 + 1) * 16 + (i + 1) then yw_bi T (A' * 16 + (j - (T.1 + 1) * 16)) else yw_bi T j) := by
          funext j
          show (if j = (T.1 + 1) * 16 + i then yw_bi T (A' * 16 + i) else if (T.1 + 1) * 16 ≤ j ∧ j < (T.1 + 1) * 16 + i then yw_bi T (A' * 16 + (j - (T.1 + 1) * 16)) else yw_bi T j) = _
          by_cases z : j = (T.1 + 1) * 16 + i
          · rw [if_pos z, if_pos (by omega), z, Nat.add_sub_cancel_left]
          · rw [if_neg z]
            by_cases y : (T.1 + 1) * 16 ≤ j ∧ j < (T.1 + 1) * 16 + i
            · rw [if_pos y, if_pos (by omega)]
            · rw [if_neg y, if_neg (by omega)]
        rw [eg]
        exact nm_e (nm_r (nI_1 i) (ih (i + 1) f' (by omega) (by omega)))
    have g := go 16 0 17 (by omega) (by omega)
    have e0 : (fun j => if (T.1 + 1) * 16 ≤ j ∧ j < (T.1 + 1) * 16 + 0 then yw_bi T (A' * 16 + (j - (T.1 + 1) * 16)) else yw_bi T j) = yw_bi T := by
      funext j
      rw [if_neg (by omega)]
    rw [e0] at g
    exact g
  · -- behind a call
    intro b A m T q l hA hm q3 hz d1 d2 et q0 q1 dq dm f1 hl H st f x5 h1 h2
    obtain ⟨f, rfl⟩ : ∃ f', f = f' + 1 := ⟨f - 1, by omega⟩
    refine yv_entry Ar hk hpa hA hm (by omega) (fun _ => ?_) (fun w => by omega)
    have c0 := cell hA hm
    have c1 := cell hA (kid0 hm (by omega))
    have c2 := cell hA (kid1 hm (by omega))
    have hc1 := nI_clamp (n := A * 48 + (m + 1)) (by omega)
    rw [if_neg (by omega), q3]
    refine br_f (by decide) (br_f (by decide) ⟨vc c1, ?_⟩)
    rw [rd _ c1, d1]
    refine br_f (by decide) (br_f (by decide) ⟨vc c2, ?_⟩)
    rw [rd _ c2, d2]
    refine br_f (by decide) (br_t rfl ⟨vc c0, ?_⟩)
    rw [rd _ c0, et]
    have nle : ¬ nI q ≤ 0 := nI_nle q0 (by omega)
    refine br_f nle ⟨vc c0, vc q1, ?_⟩
    rw [rd _ q1, dq]
    refine br_f (by decide) (br_t rfl ⟨vc c1, ?_⟩)
    rw [hc1, f1]
    refine br_t (nI_pos' (by omega)) (br_t rfl ⟨vc c0, ?_⟩)
    rw [rd _ c0, et]
    refine br_f (nI_ne0 q0 (by omega)) (br_f (by decide) (br_t rfl (br_f (by decide) (br_t rfl (br_f (by decide) (br_f (by decide) (br_f (by decide) (br_t rfl ⟨vc c0, ?_⟩))))))))
    rw [rd _ c0, et]
    refine br_f nle ⟨vc c0, nm_e ?_⟩
    exact yv_770 (k9 := 3) c0 q1 (by omega) (Or.inr (fun w => by rw [w, dm] at dq; cases dq)) (fun _ => rfl) (fun _ => rfl) hz (fun w => J0 (by omega) (H.1 w) w) (fun w => H.2 w (st + 1) f _ (by omega) (by omega))
end
end
section
/-! ===== run ===== -/
section
variable {g_cellLimit g_callLimit g_closureLimit g_nodes g_holes g_reached : Int32} {b_kinds b_operands b_parents b_s b_p b_rec b_sets b_live b_done b_fn b_val b_entered b_bind : Nat → Int32}
variable {cs n L cl cm E : Nat} {K P N Lv S O B : Nat → Nat} {old : Nat → Int32}
/-- the tables at the start -/
def yv_T0 (dn et bi : Nat → Nat) (fn vl : Nat → Int32) : yw_S := (0, 0, (fun j => if j < 2352 then 0 else dn j), fn, vl, (fun j => if j < 2352 then 0 else et j), bi, (fun _ => 0))
theorem ru_r_5 (E : Nat) (r : Nat → Int32) (a b c d e : Int32) : upd (upd (upd (upd (upd r (E * 5) a) (E * 5 + 1) b) (E * 5 + 2) c) (E * 5 + 3) d) (E * 5 + 4) e = ru_r E r a b c d e := rfl
/-- the record -/
theorem yv_857 {post : Int32 → SY → Prop} {T : yw_S} {x : Nat} {x5 b : Int32} (hE : E < 2) (hx : x ≤ 5) (hb : b = (if x = 1 then yw_vl T 0 else if x = 2 then yw_fn T 0 else nI 0)) (hp : post (nI x) (g_cellLimit, (nI cl), (nI cm), (nI n), g_holes, g_reached, b_kinds, b_operands, b_parents, b_s, b_p, (ru_r E b_rec (nI x) b (if x ≤ 2 then -1 else x5) (nI T.1) (nI T.2.1)), (re_cs E old (yw_cs T)), b_live, (rn_F (yw_dn T)), (yw_fn T), (yw_vl T), (rn_F (yw_et T)), (rn_F (yw_bi T)))) : wY_run_857 post (nI T.1) (nI T.2.1) (nI x) x5 (nI (E * 5)) g_cellLimit (nI cl) (nI cm) (nI n) g_holes g_reached b_kinds b_operands b_parents b_s b_p b_rec (re_cs E old (yw_cs T)) b_live (rn_F (yw_dn T)) (yw_fn T) (yw_vl T) (rn_F (yw_et T)) (rn_F (yw_bi T)) := by
  have e : ∀ k, k < 5 → vp_in (nI (E * 5) + nI k) 10 ∧ (nI (E * 5) + nI k).toNatClampNeg = E * 5 + k := fun k hk => by
    rw [nI_add, nI_clamp (by omega)]
    exact ⟨vp_in_nI (by omega) (by omega), rfl⟩
  have j1 : (nI (E * 5) + 1).toNatClampNeg = E * 5 + 1 := (e 1 (by omega)).2
  have j2 : (nI (E * 5) + 2).toNatClampNeg = E * 5 + 2 := (e 2 (by omega)).2
  have j3 : (nI (E * 5) + 3).toNatClampNeg = E * 5 + 3 := (e 3 (by omega)).2
  have j4 : (nI (E * 5) + 4).toNatClampNeg = E * 5 + 4 := (e 4 (by omega)).2
  have hc := nI_clamp (n := E * 5) (by omega)
  have last : ∀ c : Int32, c = (if x ≤ 2 then -1 else x5) → wY_run_926 post (nI T.1) (nI T.2.1) (nI x) (nI (E * 5)) c (nI (E * 5) + 2) g_cellLimit (nI cl) (nI cm) (nI n) g_holes g_reached b_kinds b_operands b_parents b_s b_p (upd (upd b_rec (E * 5) (nI x)) (E * 5 + 1) b) (re_cs E old (yw_cs T)) b_live (rn_F (yw_dn T)) (yw_fn T) (yw_vl T) (rn_F (yw_et T)) (rn_F (yw_bi T)) := fun c hc => by
    refine ⟨(e 2 (by omega)).1, nm_e ⟨(e 3 (by omega)).1, nm_e ⟨(e 4 (by omega)).1, nm_e ?_⟩⟩⟩
    rw [j2, j3, j4, hc]
    exact hp
  have mid : wY_run_905 post (nI T.1) (nI T.2.1) (nI x) x5 (nI (E * 5)) b (nI (E * 5) + 1) g_cellLimit (nI cl) (nI cm) (nI n) g_holes g_reached b_kinds b_operands b_parents b_s b_p (upd b_rec (E * 5) (nI x)) (re_cs E old (yw_cs T)) b_live (rn_F (yw_dn T)) (yw_fn T) (yw_vl T) (rn_F (yw_et T)) (rn_F (yw_bi T)) := by
    refine ⟨(e 1 (by omega)).1, nm_e ?_⟩
    rw [j1]
    by_cases w : x ≤ 2
    · exact br_t (nI_le (b := 2) w (by decide)) (last _ (if_pos w).symm)
    · exact br_f (nI_ge (a := 2) (by omega) (by omega)) (last _ (if_neg w).symm)
  refine ⟨vp_in_nI (by omega) (by omega), nm_e ?_⟩
  rw [hc]
  by_cases w1 : x = 1
  · rw [if_pos w1] at hb
    rw [hb] at mid
    exact br_t (by rw [w1]; rfl) mid
  · rw [if_neg w1] at hb
    refine br_f (fun q => w1 ((nI_eq (b := 1) (by omega) (by decide)).mp q)) ?_
    by_cases w2 : x = 2
    · rw [if_pos w2] at hb
      rw [hb] at mid
      exact br_t (by rw [w2]; rfl) mid
    · rw [if_neg w2] at hb
      rw [hb] at mid
      exact br_f (fun q => w2 ((nI_eq (b := 2) (by omega) (by decide)).mp q)) mid
theorem yy_run {post : Int32 → SY → Prop} {dn et bi : Nat → Nat} (Ar : re_A cs n 0 L K P N Lv S O B) (hk : ∀ m, m < n → b_kinds m = nI (K m) ∧ K m ≤ 6) (hpa : ∀ m, 0 < m → m < n → b_parents m = nI (P m)) (hod : ∀ m, m < n → K m = 0 → b_operands m = nI (O m)) (hE : E < 2) (hcl : cl ≤ 48) (h64 : cm ≤ 64)
    (hp : ∀ dn fn vl et bi, post (nI (ru_e (ru_ev K P N O b_operands n cl cm).1)) (g_cellLimit, (nI cl), (nI cm), (nI n), g_holes, g_reached, b_kinds, b_operands, b_parents, b_s, b_p, (ru_r E b_rec (nI (ru_e (ru_ev K P N O b_operands n cl cm).1)) (ru_v K (ru_ev K P N O b_operands n cl cm).2 (ru_ev K P N O b_operands n cl cm).1) (ru_n (ru_ev K P N O b_operands n cl cm).1) (nI (ru_ev K P N O b_operands n cl cm).2.1) (nI (ru_ev K P N O b_operands n cl cm).2.2.1)), (re_cs E b_sets (ru_ev K P N O b_operands n cl cm).2.2.2.2.2), b_live, (rn_F dn), fn, vl, (rn_F et), (rn_F bi))) :
    wY_run_34 post (nI E) g_cellLimit (nI cl) (nI cm) (nI n) g_holes g_reached b_kinds b_operands b_parents b_s b_p b_rec b_sets b_live (rn_F dn) b_fn b_val (rn_F et) (rn_F bi) := by
  obtain ⟨h0, F0⟩ := re_full Ar
  have hn : n ≤ 48 := by have := Ar.2.2.1; have := Ar.2.2.2.1; omega
  have hL : L ≤ 16 := Ar.2.2.2.2.2.1
  have N0 : N 0 = 0 := (Ar.2.2.2.2.2.2.1 0 h0).1 rfl
  have sc0 : ∀ l, (fun m l => (S m).testBit l) 0 l = false := (Ar.2.2.2.2.2.2.2.1 0 h0).1 rfl
  obtain ⟨Pr, Po⟩ := ru_post (cm := cm) Ar b_operands hcl
  have Bs := re_so_B (bd := re_bd K n) Ar (re_bd_is (K := K) (n := n))
  have Ru := yv_R (post := post) (g_cellLimit := g_cellLimit) (g_holes := g_holes) (g_reached := g_reached) (b_s := b_s) (b_p := b_p) (b_rec := b_rec) (b_live := b_live) (old := b_sets) Ar hk hpa hod hE hcl h64
  have run := yw_run (re_ev_T Ar) (re_tr_L Ar) hcl hL Bs Ru 2400 ev_e0' 0 ev_s0 Pr
  have run' : yw_M K (tr_e P n) N Lv (tr_lc K) (fun m l => (S m).testBit l) n _ _ _ ev_e0' 0 ev_s0 (ru_ev K P N O b_operands n cl cm).1 (ru_ev K P N O b_operands n cl cm).2 := run
  have lt48 : ∀ {A m : Nat}, A ≤ 48 → m < 48 → A * 48 + m < 2352 := fun {A m} a b => by omega
  have z0 : ∀ {j : Nat}, j < 2352 → yw_dn (yv_T0 dn et bi b_fn b_val) j = 0 ∧ yw_et (yv_T0 dn et bi b_fn b_val) j = 0 := fun {j} hj => ⟨if_pos hj, if_pos hj⟩
  obtain ⟨g1, g2⟩ := run' 0 (yv_T0 dn et bi b_fn b_val) (fun _ => 0) 0 (Nat.le_refl _) ⟨rfl, rfl, rfl, fun k hk => absurd hk (Nat.not_lt_zero k)⟩ (fun b hb kb w => by rw [sc0] at w; cases w) (fun m a b => z0 (by have := tr_root (P := P) h0; omega)) (fun A m a b c => z0 (lt48 b c)) (z0 (by omega)).1 (Nat.zero_le _) (fun T' b _ _ h => h)
  have W1 := Po.1.1
  have W2 := Po.1.2.1
  have cost : yw_c (tr_e P n) 0 ev_s0 (ru_ev K P N O b_operands n cl cm).2 ≤ 705600 := by
    have e := tr_root (P := P) h0
    show 294 * ((tr_e P n 0 - 0) + 49 * ((ru_ev K P N O b_operands n cl cm).2.1 - 0)) ≤ 705600
    omega
  -- the walk from the start
  have walk : ∃ B', B' ≤ 705601 ∧ (∀ st f x5, st + B' < 1000000 → B' < f → wY_run_117 post (nI E) (nI (E * 5)) g_cellLimit (nI cl) (nI cm) (nI n) g_holes g_reached f (nI 0) (nI 0) (nI 0) x5 (nI 0) (nI st) b_kinds b_operands b_parents b_s b_p b_rec (re_cs E b_sets (fun _ => 0)) b_live (rn_F (yw_dn (yv_T0 dn et bi b_fn b_val))) b_fn b_val (rn_F (yw_et (yv_T0 dn et bi b_fn b_val))) (rn_F bi)) := by
    generalize hr : (ru_ev K P N O b_operands n cl cm).1 = r at *
    generalize hs : (ru_ev K P N O b_operands n cl cm).2 = s' at *
    rcases r with v | x
    · refine ⟨0 + yw_c (tr_e P n) 0 ev_s0 s', by omega, ?_⟩
      have fin := g1 v rfl 0 (fun T' kap Q hkap Sm G d yv => ⟨fun _ x5 => ?_, fun w => absurd rfl w⟩)
      · exact fin
      · have q1 : T'.1 = s'.1 := Q.1
        have q2 : T'.2.1 = s'.2.1 := Q.2.1
        have q3 : yw_cs T' = s'.2.2.2.2 := Q.2.2.1
        have yv' : yw_v (tr_lc K) s' kap v (yw_fn T' 0) (yw_vl T' 0) := yv
        rcases v with i | kk
        · obtain ⟨y1, y2⟩ := yv'.1 i rfl
          have lt : yw_fn T' 0 < 0 := by rw [y1]; decide
          rw [if_pos lt]
          refine yv_857 (x := 1) (T := T') hE (by omega) (b := i) (by rw [if_pos rfl, y2]) ?_
          rw [if_pos (by omega), q1, q2, q3]
          exact hp _ _ _ _ _
        · obtain ⟨y1, y2⟩ := yv'.2 kk rfl
          have hkk := Po.2.2.1 _ rfl kk rfl
          obtain ⟨p1, p2, _⟩ := Po.1.2.2 kk hkk
          have lp := tr_lc_lt p1 p2
          have hLn := Ar.2.2.2.2.1
          have nlt : ¬ yw_fn T' 0 < 0 := by rw [y1]; exact nI_pos (by omega)
          rw [if_neg nlt]
          refine yv_857 (x := 2) (T := T') hE (by omega) (b := nI (tr_lc K (s'.2.2.1 kk))) (by rw [if_neg (by omega), if_pos rfl, y1]) ?_
          rw [if_pos (by omega), q1, q2, q3]
          exact hp _ _ _ _ _
    · refine ⟨yw_c (tr_e P n) 0 ev_s0 s', by omega, ?_⟩
      have hx := Po.2.2.2 x rfl
      have fin := g2 x rfl (fun T' q1 q2 q3 => ?_)
      · exact fin
      · refine yv_857 (x := x.1) (T := T') hE hx.2.1 (b := nI 0) (by rw [if_neg (by omega), if_neg (by omega)]) ?_
        rw [if_neg (by omega), q1, q2, q3]
        exact hp _ _ _ _ _
  obtain ⟨B', hB, hw⟩ := walk
  -- the loops that clear
  have c2 : ∀ d i f, i + d = 48 → d < f → wY_run_88 post (nI E) (nI 0) (nI 0) (nI 0) (nI 0) (nI 0) (nI (E * 5)) g_cellLimit (nI cl) (nI cm) (nI n) g_holes g_reached f (nI i) b_kinds b_operands b_parents b_s b_p b_rec (re_cz E i b_sets) b_live (rn_F (yw_dn (yv_T0 dn et bi b_fn b_val))) b_fn b_val (rn_F (yw_et (yv_T0 dn et bi b_fn b_val))) (rn_F bi) := by
    intro d
    induction d with
    | zero =>
      intro i f hi hf
      obtain ⟨f, rfl⟩ : ∃ f', f = f' + 1 := ⟨f - 1, by omega⟩
      have e : i = 48 := by omega
      subst e
      exact br_t (by decide) ⟨705602, hw 0 705602 _ (by omega) (by omega)⟩
    | succ d ih =>
      intro i f hi hf
      obtain ⟨f, rfl⟩ : ∃ f', f = f' + 1 := ⟨f - 1, by omega⟩
      refine br_f (nI_ge (b := 48) (by omega) (by decide)) ?_
      rw [ru_48, nI_clamp (n := E * 48 + i) (by omega), re_cz_s]
      exact ⟨vp_in_nI (by omega) (by omega), nm_e (nm_r (nI_1 i) (ih (i + 1) f (by omega) (by omega)))⟩
  have c1 : ∀ d i f, i + d = 2352 → d < f → wY_run_55 post (nI E) (nI 0) (nI 0) (nI 0) (nI 0) (nI 0) (nI (E * 5)) g_cellLimit (nI cl) (nI cm) (nI n) g_holes g_reached f (nI i) b_kinds b_operands b_parents b_s b_p b_rec b_sets b_live (rn_F (fun j => if j < i then 0 else dn j)) b_fn b_val (rn_F (fun j => if j < i then 0 else et j)) (rn_F bi) := by
    intro d
    induction d with
    | zero =>
      intro i f hi hf
      obtain ⟨f, rfl⟩ : ∃ f', f = f' + 1 := ⟨f - 1, by omega⟩
      have e : i = 2352 := by omega
      subst e
      have g := c2 48 0 49 (by omega) (by omega)
      rw [re_cz_0] at g
      exact br_t (by decide) ⟨49, g⟩
    | succ d ih =>
      intro i f hi hf
      obtain ⟨f, rfl⟩ : ∃ f', f = f' + 1 := ⟨f - 1, by omega⟩
      have v : vp_in (nI i) 2352 := vp_in_nI (by omega) (by omega)
      have sh : ∀ g : Nat → Nat, tr_put (fun j => if j < i then 0 else g j) i 0 = (fun j => if j < i + 1 then 0 else g j) := fun g => by
        funext j
        show (if j = i then 0 else if j < i then 0 else g j) = _
        by_cases w : j = i
        · rw [if_pos w, if_pos (by omega)]
        · rw [if_neg w]
          by_cases y : j < i
          · rw [if_pos y, if_pos (by omega)]
          · rw [if_neg y, if_neg (by omega)]
      refine br_f (nI_ge (b := 2352) (by omega) (by decide)) ⟨v, ?_⟩
      rw [nI_clamp (n := i) (by omega), yv_b.2, rn_put, sh]
      have e2 : upd (rn_F (fun j => if j < i then 0 else et j)) i 0 = rn_F (fun j => if j < i + 1 then 0 else et j) := by
        have := rn_put (fun j => if j < i then 0 else et j) i 0
        rw [sh] at this
        exact this
      rw [e2]
      exact nm_e ⟨v, nm_e (nm_r (nI_1 i) (ih (i + 1) f (by omega) (by omega)))⟩
  have g := c1 2352 0 2353 (by omega) (by omega)
  have ed : (fun j => if j < 0 then 0 else dn j) = dn := by funext j; rw [if_neg (by omega)]
  have ee : (fun j => if j < 0 then 0 else et j) = et := by funext j; rw [if_neg (by omega)]
  rw [ed, ee] at g
  exact nm_r (show nI E * 5 = nI (E * 5) from pk_mul E 5) ⟨2353, g⟩
end
end
section
/-! ===== run, the two sides ===== -/
theorem i_vc_run {k : Nat} {u : SX} {v : SY} (I : i_Rel k u v) (hk : k + 3 ≤ 1539) (v1 : Int32) : wpX_run (fun r u' => wpY_run (fun r' v' => r' = r ∧ i_Rel (k + 3) u' v') v v1) u v1 := by
  refine i_el (G := fun u v => wpX_run (fun r u' => wpY_run (fun r' v' => r' = r ∧ i_Rel (k + 3) u' v') v v1) u v1) I ?_
  intro cs cl cm n h L st cn K P N Lv S O B oc nd tg bs en dn et bi f_grown f_runningEngine f_ending f_callCount f_closureCount f_frame f_waitingCount a_kinds a_operands a_parents a_places a_children a_levels a_nests a_scopes a_nodeLambdas a_lambdaNodes a_liveNodes a_nodeFlows a_paramFlows a_entries a_frameReturns a_closureLambdas a_records a_calledSets a_closureValues a_frameValues a_waiting b_s b_p b_live b_fn b_val hI I0
  obtain ⟨A, X, l1, l2, m1, m2, s, S1, S2⟩ := hI
  obtain ⟨hn, hh, hL⟩ := ez_48 A
  have kd := ez_kd A X
  -- the reference's side, behind the class's
  have fin : ∀ E : Nat, E < 2 → h = 0 → (E = 1 → st = 2) → ∀ (xr xe xa xo xf xw : Int32) (r1 r2 : Nat → Int32) (q1 q2 q3 : Nat → Int64), wpY_run (fun r' v' => r' = nI (ru_e (ru_ev K P N O a_operands n cl cm).1) ∧ i_Rel (k + 3) ((nI cs), (nI cl), (nI cm), (nI n), (nI h), (nI L), (nI st), f_grown, (nI cn), xr, xe, xa, xo, xf, xw, a_kinds, a_operands, a_parents, a_places, a_children, a_levels, a_nests, a_scopes, a_nodeLambdas, a_lambdaNodes, a_liveNodes, a_nodeFlows, a_paramFlows, (rn_F oc), (rn_F nd), (rn_F tg), (rn_F bs), a_entries, r1, q1, r2, q2, q3, (ru_r E a_records (nI (ru_e (ru_ev K P N O a_operands n cl cm).1)) (ru_v K (ru_ev K P N O a_operands n cl cm).2 (ru_ev K P N O a_operands n cl cm).1) (ru_n (ru_ev K P N O a_operands n cl cm).1) (nI (ru_ev K P N O a_operands n cl cm).2.1) (nI (ru_ev K P N O a_operands n cl cm).2.2.1)), (re_cs E a_calledSets (ru_ev K P N O a_operands n cl cm).2.2.2.2.2)) v') ((nI cs), (nI cl), (nI cm), (nI n), (nI h), (nI st), a_kinds, a_operands, a_parents, b_s, b_p, a_records, a_calledSets, b_live, (rn_F dn), b_fn, b_val, (rn_F et), (rn_F bi)) (nI E) := by
    intro E hE h0 hst xr xe xa xo xf xw r1 r2 q1 q2 q3
    subst h0
    have main : wY_run_34 (fun r' v' => r' = nI (ru_e (ru_ev K P N O a_operands n cl cm).1) ∧ i_Rel (k + 3) ((nI cs), (nI cl), (nI cm), (nI n), (nI 0), (nI L), (nI st), f_grown, (nI cn), xr, xe, xa, xo, xf, xw, a_kinds, a_operands, a_parents, a_places, a_children, a_levels, a_nests, a_scopes, a_nodeLambdas, a_lambdaNodes, a_liveNodes, a_nodeFlows, a_paramFlows, (rn_F oc), (rn_F nd), (rn_F tg), (rn_F bs), a_entries, r1, q1, r2, q2, q3, (ru_r E a_records (nI (ru_e (ru_ev K P N O a_operands n cl cm).1)) (ru_v K (ru_ev K P N O a_operands n cl cm).2 (ru_ev K P N O a_operands n cl cm).1) (ru_n (ru_ev K P N O a_operands n cl cm).1) (nI (ru_ev K P N O a_operands n cl cm).2.1) (nI (ru_ev K P N O a_operands n cl cm).2.2.1)), (re_cs E a_calledSets (ru_ev K P N O a_operands n cl cm).2.2.2.2.2)) v') (nI E) (nI cs) (nI cl) (nI cm) (nI n) (nI 0) (nI st) a_kinds a_operands a_parents b_s b_p a_records a_calledSets b_live (rn_F dn) b_fn b_val (rn_F et) (rn_F bi) := by
      refine yy_run A kd X.2.2.2.1 X.2.1 hE l2 m2 (fun dn' fn' vl' et' bi' => ⟨rfl, ?_⟩)
      exact i_in (K := K) (P := P) (N := N) (Lv := Lv) (S := S) (O := O) (B := B) (en := en) ⟨A, X, l1, l2, m1, m2, s, S1, S2⟩
    have nz : ¬ (0 : Int32) < nI 0 := by decide
    have hc : E = 0 ∨ E = 1 := by omega
    rcases hc with e | e
    · subst e
      exact br_t rfl (br_f nz (br_f (by decide) main))
    · have st2 := hst e
      subst e
      have g2 : (2 : Int32) ≤ nI st := by rw [st2]; decide
      exact br_f (by decide) (br_t rfl (br_f nz (br_t rfl (br_t g2 main))))
  rcases ez_e v1 with rfl | rfl | ⟨a, b, c⟩
  · -- the interpreter
    refine br_t rfl (br_f (by decide) ?_)
    by_cases h0 : h = 0
    · subst h0
      refine br_f (by decide) (br_f (by decide) ?_)
      unfold wX_run_32
      refine xx_startRun (E := 0) (by decide) (br_t rfl ?_)
      exact xx_interpret A X (by decide) l2 m2 (fun ca co cll clv fr ret fv wc wt => fin 0 (by decide) rfl (fun w => by omega) _ _ _ _ _ _ _ _ _ _ _)
    · have q : (0 : Int32) < nI h := nI_lt (a := 0) (by omega) (by omega)
      exact br_t q (br_t rfl (br_t q ⟨rfl, I0⟩))
  · -- the compiled engine
    refine br_f (by decide) (br_t rfl (br_f (by decide) ?_))
    by_cases h0 : h = 0
    · subst h0
      refine br_f (by decide) (br_t rfl ?_)
      by_cases s2 : st = 2
      · have g2 : (2 : Int32) ≤ nI st := by rw [s2]; decide
        refine br_t g2 ?_
        obtain ⟨hcn, I1, I2, I3⟩ := S2 s2
        have T := re_so_T A (re_bd_is (K := K) (n := n))
        have hn0 := (re_full A).1
        unfold wX_run_32
        refine xx_startRun (E := 1) (by decide) (br_f (by decide) ?_)
        exact xx_execute A X (by decide) l2 m2 hcn (so_sol_Cl T hn0) (so_sol_0 T hn0) I1 I2 I3 (fun ca co cll clv fr ret fv wc wt => fin 1 (by decide) rfl (fun _ => s2) _ _ _ _ _ _ _ _ _ _ _)
      · have g2 : ¬ (2 : Int32) ≤ nI st := nI_ge (b := 2) (by omega) (by decide)
        exact br_f g2 (br_f (by decide) (br_t rfl (br_f (by decide) (br_t rfl (br_f g2 ⟨rfl, I0⟩)))))
    · have q : (0 : Int32) < nI h := nI_lt (a := 0) (by omega) (by omega)
      exact br_t q (br_f (by decide) (br_t rfl (br_t q ⟨rfl, I0⟩)))
  · exact br_f a (br_f b (br_t rfl (br_f a (br_f b ⟨rfl, I0⟩))))
end
