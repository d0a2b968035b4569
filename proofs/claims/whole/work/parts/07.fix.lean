/-! ===== the range of the masks, the number of facts, the fixed point ===== -/
def so_ms (L a : Nat) : Prop := ∀ b, a.testBit b = true → b < L ∨ b = 16
def so_R (n L : Nat) (t : so_S) : Prop := so_01 t ∧ (∀ i, n ≤ i → t.1 i = 0 ∧ t.2.1 i = 0) ∧ (∀ l, L ≤ l → t.2.2 l = 0) ∧ (∀ i, so_ms L (t.2.1 i)) ∧ (∀ l, so_ms L (t.2.2 l))
theorem so_ms_0 (L : Nat) : so_ms L 0 := fun b h => by rw [Nat.zero_testBit] at h; cases h
theorem so_ms_or {L a b : Nat} (h : so_ms L a) (g : so_ms L b) : so_ms L (a ||| b) := fun i hi => by
  rw [Nat.testBit_or, Bool.or_eq_true] at hi
  exact hi.elim (h i) (g i)
theorem so_ms_and {L a b : Nat} (h : so_ms L a) : so_ms L (a &&& b) := fun i hi => by
  rw [Nat.testBit_and, Bool.and_eq_true] at hi
  exact h i hi.1
theorem so_ms_pow {L l : Nat} (h : l < L ∨ l = 16) : so_ms L (2 ^ l) := fun i hi => by
  rw [Nat.testBit_two_pow, decide_eq_true_iff] at hi
  rw [← hi]; exact h
theorem so_ms_lt {L a : Nat} (hL : L ≤ 16) (h : so_ms L a) : a < 131072 := by
  have : a < 2 ^ 17 := Nat.lt_pow_two_of_testBit a (fun i hi => by
    cases e : a.testBit i with
    | false => rfl
    | true => have := h i e; omega)
  omega
theorem so_R_lv {n L i : Nat} {t : so_S} (R : so_R n L t) (hi : i < n) : so_R n L (so_lv t i) := by
  obtain ⟨r1, r2, r3, r4, r5⟩ := R
  refine ⟨so_lv_01 r1 i, fun j hj => ⟨?_, (r2 j hj).2⟩, r3, r4, r5⟩
  show tr_put t.1 i 1 j = 0
  rw [tr_put_n t.1 1 (show j ≠ i by omega)]
  exact (r2 j hj).1
theorem so_R_fl {n L i m : Nat} {t : so_S} (R : so_R n L t) (hi : i < n) (hm : so_ms L m) : so_R n L (so_fl t i m) := by
  obtain ⟨r1, r2, r3, r4, r5⟩ := R
  refine ⟨r1, fun j hj => ⟨(r2 j hj).1, ?_⟩, r3, fun j => ?_, r5⟩
  · show tr_put t.2.1 i (t.2.1 i ||| m) j = 0
    rw [tr_put_n t.2.1 _ (show j ≠ i by omega)]
    exact (r2 j hj).2
  · show so_ms L (tr_put t.2.1 i (t.2.1 i ||| m) j)
    by_cases z : j = i
    · rw [z, tr_put_s]; exact so_ms_or (r4 i) hm
    · rw [tr_put_n t.2.1 _ z]; exact r4 j
theorem so_R_pa {n L l m : Nat} {t : so_S} (R : so_R n L t) (hl : l < L) (hm : so_ms L m) : so_R n L (so_pa t l m) := by
  obtain ⟨r1, r2, r3, r4, r5⟩ := R
  refine ⟨r1, r2, fun j hj => ?_, r4, fun j => ?_⟩
  · show tr_put t.2.2 l (t.2.2 l ||| m) j = 0
    rw [tr_put_n t.2.2 _ (show j ≠ l by omega)]
    exact r3 j hj
  · show so_ms L (tr_put t.2.2 l (t.2.2 l ||| m) j)
    by_cases z : j = l
    · rw [z, tr_put_s]; exact so_ms_or (r5 l) hm
    · rw [tr_put_n t.2.2 _ z]; exact r5 j
/-- what the tree must give: binders, lambda numbers and bodies in range -/
def so_T (K e bl lc bd : Nat → Nat) (L n : Nat) : Prop := tr_T K e n ∧ n ≤ 48 ∧ L ≤ 16 ∧ (∀ m, m < n → K m ≤ 6) ∧ (∀ m, m < n → K m = 0 → bl m < L) ∧ (∀ m, m < n → K m = 2 → lc m < L) ∧ (∀ l, l < L → bd l < n)
theorem so_R_lp {n L c0 c1 m : Nat} {bd : Nat → Nat} {t : so_S} (R : so_R n L t) (hm : m < n) (hb : ∀ l, l < L → bd l < n) : ∀ l, l ≤ L → so_R n L (so_lp c0 c1 m bd t l) := by
  intro l
  induction l with
  | zero => intro _; exact R
  | succ l ih =>
    intro hl
    have r := ih (by omega)
    show so_R n L (so_st c0 c1 m bd (so_lp c0 c1 m bd t l) l)
    unfold so_st
    by_cases z : ((so_lp c0 c1 m bd t l).2.1 c0).testBit l = true
    · rw [if_pos z]
      exact so_R_fl (so_R_pa (so_R_lv r (hb l (by omega))) (by omega) (r.2.2.2.1 c1)) hm (r.2.2.2.1 _)
    · rw [if_neg z]; exact r
section
variable {K e bl lc bd : Nat → Nat} {L n : Nat}
theorem so_R_g (T : so_T K e bl lc bd L n) {t : so_S} {m : Nat} (R : so_R n L t) (hm : m < n) : so_R n L (so_g K e bl lc bd L t m) := by
  obtain ⟨T1, T2, T3, T4, T5, T6, T7⟩ := T
  have m4 := R.2.2.2.1
  have m5 := R.2.2.2.2
  unfold so_g
  by_cases k0 : K m = 0
  · rw [if_pos k0]; exact so_R_fl R hm (m5 _)
  rw [if_neg k0]
  by_cases k1 : K m = 1
  · rw [if_pos k1]; exact so_R_fl R hm (so_ms_pow (l := 16) (Or.inr rfl))
  rw [if_neg k1]
  by_cases k2 : K m = 2
  · rw [if_pos k2]; exact so_R_fl R hm (so_ms_pow (Or.inl (T6 m hm k2)))
  rw [if_neg k2]
  by_cases k6 : K m = 6
  · obtain ⟨a1, a2, a3, a4, a5, _⟩ := tr_k6 T1 hm k6
    rw [if_pos k6]
    by_cases z : (t.2.1 (m + 1)).testBit 16 = true
    · rw [if_pos z]
      exact so_R_fl (so_R_lv (so_R_lv (so_R_lv R a1) a3) a5) hm (so_ms_or (m4 _) (m4 _))
    · rw [if_neg z]; exact so_R_lv R a1
  rw [if_neg k6]
  obtain ⟨a1, a2, a3, _⟩ := tr_k3 T1 hm (by omega) k6
  have r2 := so_R_lv (so_R_lv R a1) a3
  by_cases k3 : K m = 3
  · rw [if_pos k3]
    by_cases z : t.2.1 (e (m + 1)) = 0
    · rw [if_pos z]; exact r2
    · rw [if_neg z]; exact so_R_lp r2 hm T7 L (Nat.le_refl L)
  rw [if_neg k3]
  exact so_R_fl r2 hm (so_ms_and (so_ms_and (m4 _)))
theorem so_R_ps (T : so_T K e bl lc bd L n) {t : so_S} (R : so_R n L t) : ∀ i, i ≤ n → so_R n L (so_ps K e bl lc bd L t i) := by
  intro i
  induction i with
  | zero => intro _; exact R
  | succ i ih =>
    intro hi
    have r := ih (by omega)
    show so_R n L (if (so_ps K e bl lc bd L t i).1 i = 1 then so_g K e bl lc bd L (so_ps K e bl lc bd L t i) i else so_ps K e bl lc bd L t i)
    by_cases z : (so_ps K e bl lc bd L t i).1 i = 1
    · rw [if_pos z]; exact so_R_g T r (by omega)
    · rw [if_neg z]; exact r
end
/-! the number of facts -/
def so_pc (a : Nat) : Nat := tr_sum (fun b => if a.testBit b = true then 1 else 0) 17
def so_mu (n : Nat) (t : so_S) : Nat := tr_sum (fun i => t.1 i + so_pc (t.2.1 i)) n + tr_sum (fun l => so_pc (t.2.2 l)) 16
theorem tr_sum_bd {f : Nat → Nat} {c : Nat} : ∀ n, (∀ i, i < n → f i ≤ c) → tr_sum f n ≤ c * n := by
  intro n
  induction n with
  | zero => intro _; exact Nat.zero_le _
  | succ n ih =>
    intro h
    have h1 := ih (fun i hi => h i (by omega))
    have h2 := h n (by omega)
    show tr_sum f n + f n ≤ c * (n + 1)
    rw [Nat.mul_succ]
    omega
theorem so_pc_17 (a : Nat) : so_pc a ≤ 17 := by
  have := tr_sum_bd (f := fun b => if a.testBit b = true then 1 else 0) (c := 1) 17 (fun i _ => by
    by_cases z : a.testBit i = true
    · rw [if_pos z]; exact Nat.le_refl _
    · rw [if_neg z]; exact Nat.zero_le _)
  show tr_sum _ 17 ≤ 17
  omega
theorem so_pc_le {a b : Nat} (h : so_sub a b) : so_pc a ≤ so_pc b := by
  refine tr_sum_le 17 (fun i _ => ?_)
  by_cases z : a.testBit i = true
  · rw [if_pos z, if_pos (so_sub_bit.mp h i z)]; exact Nat.le_refl _
  · rw [if_neg z]; exact Nat.zero_le _
theorem so_pc_eq {L a b : Nat} (hL : L ≤ 16) (h : so_sub a b) (m : so_ms L b) (e : so_pc a = so_pc b) : a = b := by
  refine so_sub_a h (so_sub_bit.mpr (fun i hi => ?_))
  have hi17 : i < 17 := by have := m i hi; omega
  have := tr_sum_same 17 (fun i _ => by
    show (if a.testBit i = true then 1 else 0) ≤ (if b.testBit i = true then 1 else 0)
    by_cases z : a.testBit i = true
    · rw [if_pos z, if_pos (so_sub_bit.mp h i z)]; exact Nat.le_refl _
    · rw [if_neg z]; exact Nat.zero_le _) e i hi17
  have this' : (if a.testBit i = true then 1 else 0) = (if b.testBit i = true then 1 else 0) := this
  rw [if_pos hi] at this'
  by_cases z : a.testBit i = true
  · exact z
  · rw [if_neg z] at this'; omega
theorem so_mu_bd {n L : Nat} {t : so_S} (hn : n ≤ 48) (R : so_R n L t) : so_mu n t ≤ 1136 := by
  have h1 := tr_sum_bd (f := fun i => t.1 i + so_pc (t.2.1 i)) (c := 18) n (fun i _ => by
    have := R.1 i
    have := so_pc_17 (t.2.1 i)
    show t.1 i + so_pc (t.2.1 i) ≤ 18
    omega)
  have h2 := tr_sum_bd (f := fun l => so_pc (t.2.2 l)) (c := 17) 16 (fun i _ => so_pc_17 _)
  show tr_sum _ n + tr_sum _ 16 ≤ 1136
  omega
theorem so_eq {n L : Nat} {t u : so_S} (hL : L ≤ 16) (R : so_R n L t) (R' : so_R n L u) (h1 : ∀ i, i < n → t.1 i = u.1 i ∧ t.2.1 i = u.2.1 i) (h2 : ∀ l, l < 16 → t.2.2 l = u.2.2 l) : t = u := by
  obtain ⟨a, b, c⟩ := t
  obtain ⟨a', b', c'⟩ := u
  have e1 : a = a' := funext fun i => by
    rcases Nat.lt_or_ge i n with q | q
    · exact (h1 i q).1
    · exact (R.2.1 i q).1.trans (R'.2.1 i q).1.symm
  have e2 : b = b' := funext fun i => by
    rcases Nat.lt_or_ge i n with q | q
    · exact (h1 i q).2
    · exact (R.2.1 i q).2.trans (R'.2.1 i q).2.symm
  have e3 : c = c' := funext fun l => by
    rcases Nat.lt_or_ge l 16 with q | q
    · exact h2 l q
    · exact (R.2.2.1 l (by omega)).trans (R'.2.2.1 l (by omega)).symm
  rw [e1, e2, e3]
theorem so_mu_lt {n L : Nat} {t u : so_S} (hL : L ≤ 16) (R : so_R n L t) (R' : so_R n L u) (h : so_le t u) (ne : u ≠ t) : so_mu n t < so_mu n u := by
  have p1 : ∀ i, i < n → t.1 i + so_pc (t.2.1 i) ≤ u.1 i + so_pc (u.2.1 i) := fun i _ => Nat.add_le_add (h i).1 (so_pc_le (h i).2.1)
  have p2 : ∀ l, l < 16 → so_pc (t.2.2 l) ≤ so_pc (u.2.2 l) := fun l _ => so_pc_le (h l).2.2
  have s1 := tr_sum_le (f := fun i => t.1 i + so_pc (t.2.1 i)) (g := fun i => u.1 i + so_pc (u.2.1 i)) n p1
  have s2 := tr_sum_le (f := fun l => so_pc (t.2.2 l)) (g := fun l => so_pc (u.2.2 l)) 16 p2
  rcases Nat.lt_or_ge (so_mu n t) (so_mu n u) with q | q
  · exact q
  · have q' : tr_sum (fun i => u.1 i + so_pc (u.2.1 i)) n + tr_sum (fun l => so_pc (u.2.2 l)) 16 ≤ tr_sum (fun i => t.1 i + so_pc (t.2.1 i)) n + tr_sum (fun l => so_pc (t.2.2 l)) 16 := q
    have e1 := tr_sum_same n p1 (by omega)
    have e2 := tr_sum_same 16 p2 (by omega)
    refine absurd (so_eq hL R R' (fun i hi => ?_) (fun l hl => so_pc_eq hL (h l).2.2 (R'.2.2.2.2 l) (e2 l hl))).symm ne
    have e := e1 i hi
    have a1 := (h i).1
    have a2 := so_pc_le (h i).2.1
    have e' : t.1 i + so_pc (t.2.1 i) = u.1 i + so_pc (u.2.1 i) := e
    exact ⟨by omega, so_pc_eq hL (h i).2.1 (R'.2.2.2.1 i) (by omega)⟩
/-- the sum that the reference takes -/
def so_V (n : Nat) (t : so_S) : Nat := tr_sum (fun i => t.2.1 i) n + tr_sum (fun l => t.2.2 l) 16 + tr_sum (fun i => t.1 i) n
theorem so_V_eq {n L : Nat} {t u : so_S} (hL : L ≤ 16) (R : so_R n L t) (R' : so_R n L u) (h : so_le t u) (e : so_V n t = so_V n u) : u = t := by
  have p1 : ∀ i, i < n → t.2.1 i ≤ u.2.1 i := fun i _ => so_sub_le (h i).2.1
  have p2 : ∀ l, l < 16 → t.2.2 l ≤ u.2.2 l := fun l _ => so_sub_le (h l).2.2
  have p3 : ∀ i, i < n → t.1 i ≤ u.1 i := fun i _ => (h i).1
  have s1 := tr_sum_le (f := fun i => t.2.1 i) (g := fun i => u.2.1 i) n p1
  have s2 := tr_sum_le (f := fun i => t.2.2 i) (g := fun i => u.2.2 i) 16 p2
  have s3 := tr_sum_le (f := fun i => t.1 i) (g := fun i => u.1 i) n p3
  have e' : tr_sum (fun i => t.2.1 i) n + tr_sum (fun l => t.2.2 l) 16 + tr_sum (fun i => t.1 i) n = tr_sum (fun i => u.2.1 i) n + tr_sum (fun l => u.2.2 l) 16 + tr_sum (fun i => u.1 i) n := e
  have e1 := tr_sum_same (f := fun i => t.2.1 i) (g := fun i => u.2.1 i) n p1 (by omega)
  have e2 := tr_sum_same (f := fun i => t.2.2 i) (g := fun i => u.2.2 i) 16 p2 (by omega)
  have e3 := tr_sum_same (f := fun i => t.1 i) (g := fun i => u.1 i) n p3 (by omega)
  exact (so_eq hL R R' (fun i hi => ⟨e3 i hi, e1 i hi⟩) (fun l hl => e2 l hl)).symm
/-! the fixed point -/
def so_t0 : so_S := ((fun i => if i = 0 then 1 else 0), (fun _ => 0), (fun _ => 0))
def so_G (K e bl lc bd : Nat → Nat) (L n : Nat) (t : so_S) : so_S := so_ps K e bl lc bd L t n
def so_sol (K e bl lc bd : Nat → Nat) (L n : Nat) : so_S := so_it (so_G K e bl lc bd L n) so_t0 1200
theorem so_R_0 {n L : Nat} (hn : 0 < n) : so_R n L so_t0 := by
  refine ⟨fun i => ?_, fun i hi => ⟨if_neg (by omega), rfl⟩, fun _ _ => rfl, fun _ => so_ms_0 L, fun _ => so_ms_0 L⟩
  show (if i = 0 then 1 else 0) ≤ 1
  by_cases z : i = 0
  · rw [if_pos z]; exact Nat.le_refl _
  · rw [if_neg z]; exact Nat.zero_le _
section
variable {K e bl lc bd : Nat → Nat} {L n : Nat}
theorem so_R_it (T : so_T K e bl lc bd L n) (hn : 0 < n) : ∀ q, so_R n L (so_it (so_G K e bl lc bd L n) so_t0 q) := by
  intro q
  induction q with
  | zero => exact so_R_0 hn
  | succ q ih => exact so_R_ps T ih n (Nat.le_refl n)
theorem so_it_mu (T : so_T K e bl lc bd L n) (hn : 0 < n) : ∀ q, (∀ j, j < q → so_G K e bl lc bd L n (so_it (so_G K e bl lc bd L n) so_t0 j) ≠ so_it (so_G K e bl lc bd L n) so_t0 j) → q ≤ so_mu n (so_it (so_G K e bl lc bd L n) so_t0 q) := by
  intro q
  induction q with
  | zero => intro _; exact Nat.zero_le _
  | succ q ih =>
    intro h
    have h1 := ih (fun j hj => h j (by omega))
    have h2 := so_mu_lt T.2.2.1 (so_R_it T hn q) (so_R_it T hn (q + 1)) (so_ps_up K e bl lc bd L (so_R_it T hn q).1 n).1 (h q (by omega))
    omega
theorem so_it_bd (T : so_T K e bl lc bd L n) (hn : 0 < n) {q : Nat} (h : ∀ j, j < q → so_G K e bl lc bd L n (so_it (so_G K e bl lc bd L n) so_t0 j) ≠ so_it (so_G K e bl lc bd L n) so_t0 j) : q ≤ 1136 :=
  Nat.le_trans (so_it_mu T hn q h) (so_mu_bd T.2.1 (so_R_it T hn q))
theorem so_sol_fix (T : so_T K e bl lc bd L n) (hn : 0 < n) : so_G K e bl lc bd L n (so_sol K e bl lc bd L n) = so_sol K e bl lc bd L n := by
  by_cases z : ∃ j, j < 1137 ∧ so_G K e bl lc bd L n (so_it (so_G K e bl lc bd L n) so_t0 j) = so_it (so_G K e bl lc bd L n) so_t0 j
  · obtain ⟨j, hj, h⟩ := z
    have h1 := so_it_fix h (1200 - j)
    rw [Nat.add_sub_cancel' (show j ≤ 1200 by omega)] at h1
    show so_G K e bl lc bd L n (so_it (so_G K e bl lc bd L n) so_t0 1200) = so_it (so_G K e bl lc bd L n) so_t0 1200
    rw [h1, h]
  · have := so_it_bd T hn (q := 1137) (fun j hj y => z ⟨j, hj, y⟩)
    omega
/-- an iterate that is fixed is the solution -/
theorem so_sol_is (T : so_T K e bl lc bd L n) (hn : 0 < n) {q : Nat} (h : so_G K e bl lc bd L n (so_it (so_G K e bl lc bd L n) so_t0 q) = so_it (so_G K e bl lc bd L n) so_t0 q) : so_it (so_G K e bl lc bd L n) so_t0 q = so_sol K e bl lc bd L n :=
  so_it_one h (so_sol_fix T hn)
theorem so_sol_R (T : so_T K e bl lc bd L n) (hn : 0 < n) : so_R n L (so_sol K e bl lc bd L n) := so_R_it T hn 1200
theorem so_sol_Cl (T : so_T K e bl lc bd L n) (hn : 0 < n) : so_Cl K e bl lc bd L n (so_sol K e bl lc bd L n) := so_Cl_of (so_sol_R T hn).1 (so_sol_fix T hn)
theorem so_le_it (T : so_T K e bl lc bd L n) (hn : 0 < n) : ∀ q, so_le so_t0 (so_it (so_G K e bl lc bd L n) so_t0 q) := by
  intro q
  induction q with
  | zero => exact so_le_r _
  | succ q ih => exact so_le_t ih (so_ps_up K e bl lc bd L (so_R_it T hn q).1 n).1
theorem so_sol_0 (T : so_T K e bl lc bd L n) (hn : 0 < n) : (so_sol K e bl lc bd L n).1 0 = 1 := by
  have h1 := (so_le_it T hn 1200 0).1
  have h2 := (so_sol_R T hn).1 0
  have h3 : so_t0.1 0 = 1 := rfl
  rw [h3] at h1
  exact Nat.le_antisymm h2 h1
end
