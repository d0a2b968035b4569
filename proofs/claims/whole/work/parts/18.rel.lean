/-! ===== the term as both sides keep it ===== -/
/-- cs the limit of cells, n nodes, h holes, L lambdas; K kinds, P parents, N nests, Lv levels, S scopes, O operands of VARs, B their binders' lambdas -/
def re_A (cs n h L : Nat) (K P N Lv S O B : Nat → Nat) : Prop :=
  tr_Ok K P n ∧ tr_H K n h ∧ n + h ≤ cs ∧ cs ≤ 48 ∧ L = tr_lc K n ∧ L ≤ 16 ∧ tr_N K P N n ∧ tr_S K P (fun m l => (S m).testBit l) n ∧ tr_V K P Lv n ∧
  (∀ m, m < n → K m ≤ 6 ∧ N m ≤ 5 ∧ (K m = 2 → N m ≤ 4) ∧ (3 ≤ K m → Lv m ≤ 4) ∧ S m < 65536) ∧
  (∀ m, m < n → K m = 0 → O m < N m ∧ ∃ b, b < m ∧ K b = 2 ∧ (S m).testBit (tr_lc K b) = true ∧ B m = tr_lc K b ∧ N b + O m + 1 = N m)
/-- what a node under p gets -/
def re_nu (K N : Nat → Nat) (n p : Nat) : Nat := if n = 0 then 0 else if K p = 2 then N p + 1 else N p
def re_lu (K Lv : Nat → Nat) (n p : Nat) : Nat := if n = 0 then 0 else if K p = 2 then 0 else Lv p + 1
def re_su (K S : Nat → Nat) (n p : Nat) : Nat := if n = 0 then 0 else if K p = 2 then S p ||| 2 ^ tr_lc K p else S p
/-- p is the parent of the leftmost hole -/
def re_p (K P : Nat → Nat) (n p : Nat) : Prop := 0 < n → p < n ∧ tr_cnt P p n < tr_ar (K p) ∧ ∀ q, p < q → q < n → tr_ar (K q) ≤ tr_cnt P q n
theorem tr_ar_pos {k : Nat} (h : 0 < tr_ar k) : 2 ≤ k := by
  rcases Nat.lt_or_ge k 2 with q | q
  · rw [tr_ar_0 q] at h; omega
  · exact q
section
variable {cs n h L : Nat} {K P N Lv S O B : Nat → Nat}
theorem re_N_put (Nn : tr_N K P N n) (Ok : tr_Ok K P n) {k p : Nat} (hp : re_p K P n p) : tr_N (tr_put K n k) (tr_put P n p) (tr_put N n (re_nu K N n p)) (n + 1) := by
  intro m hm
  by_cases e : m = n
  · subst e
    rw [tr_put_s, tr_put_s]
    refine ⟨fun z => if_pos z, fun z => ?_⟩
    have a := (hp z).1
    rw [tr_put_n N _ (show p ≠ m by omega), tr_put_n K _ (show p ≠ m by omega)]
    unfold re_nu
    rw [if_neg (by omega)]
    by_cases k2 : K p = 2
    · rw [if_pos k2, if_pos k2]
    · rw [if_neg k2, if_neg k2, Nat.add_zero]
  · have hm' : m < n := by omega
    obtain ⟨a, b⟩ := Nn m hm'
    rw [tr_put_n N _ e, tr_put_n P _ e]
    refine ⟨a, fun z => ?_⟩
    have := (Ok m z hm').1
    rw [tr_put_n N _ (show P m ≠ n by omega), tr_put_n K _ (show P m ≠ n by omega)]
    exact b z
theorem re_V_put (V : tr_V K P Lv n) (Ok : tr_Ok K P n) (D : ∀ m, m < n → 3 ≤ K m → Lv m ≤ 4) {k p : Nat} (hp : re_p K P n p) : tr_V (tr_put K n k) (tr_put P n p) (tr_put Lv n (re_lu K Lv n p)) (n + 1) := by
  intro m hm
  by_cases e : m = n
  · subst e
    rw [tr_put_s, tr_put_s]
    refine ⟨?_, fun z => if_pos z, fun z => ?_⟩
    · unfold re_lu
      by_cases z : m = 0
      · rw [if_pos z]; omega
      · rw [if_neg z]
        by_cases k2 : K p = 2
        · rw [if_pos k2]; omega
        · rw [if_neg k2]
          obtain ⟨a, b, _⟩ := hp (by omega)
          have := tr_ar_pos (show 0 < tr_ar (K p) by omega)
          have := D p a (by omega)
          omega
    · have a := (hp z).1
      rw [tr_put_n Lv _ (show p ≠ m by omega), tr_put_n K _ (show p ≠ m by omega)]
      unfold re_lu
      rw [if_neg (by omega)]
  · have hm' : m < n := by omega
    obtain ⟨a, b, c⟩ := V m hm'
    rw [tr_put_n Lv _ e, tr_put_n P _ e]
    refine ⟨a, b, fun z => ?_⟩
    have := (Ok m z hm').1
    rw [tr_put_n Lv _ (show P m ≠ n by omega), tr_put_n K _ (show P m ≠ n by omega)]
    exact c z
theorem re_S_put (Sn : tr_S K P (fun m l => (S m).testBit l) n) (Ok : tr_Ok K P n) {k p : Nat} (hp : re_p K P n p) : tr_S (tr_put K n k) (tr_put P n p) (fun m l => (tr_put S n (re_su K S n p) m).testBit l) (n + 1) := by
  intro m hm
  by_cases e : m = n
  · subst e
    refine ⟨fun z l => ?_, fun z l => ?_⟩
    · show (tr_put S m (re_su K S m p) m).testBit l = false
      rw [tr_put_s]
      unfold re_su
      rw [if_pos z, Nat.zero_testBit]
    · have a := (hp z).1
      show (tr_put S m (re_su K S m p) m).testBit l = ((tr_put S m (re_su K S m p) (tr_put P m p m)).testBit l || (decide (tr_put K m k (tr_put P m p m) = 2) && decide (l = tr_lc (tr_put K m k) (tr_put P m p m))))
      rw [tr_put_s, tr_put_s, tr_put_n S _ (show p ≠ m by omega), tr_put_n K _ (show p ≠ m by omega), tr_lc_put K m k p (by omega)]
      unfold re_su
      rw [if_neg (by omega)]
      by_cases k2 : K p = 2
      · rw [if_pos k2, Nat.testBit_or, Nat.testBit_two_pow, decide_eq_true k2, Bool.true_and]
        congr 1
        exact decide_eq_decide.mpr ⟨fun x => x.symm, fun x => x.symm⟩
      · rw [if_neg k2, decide_eq_false k2, Bool.false_and, Bool.or_false]
  · have hm' : m < n := by omega
    obtain ⟨a, b⟩ := Sn m hm'
    refine ⟨fun z l => ?_, fun z l => ?_⟩
    · show (tr_put S n (re_su K S n p) m).testBit l = false
      rw [tr_put_n S _ e]
      exact a z l
    · have hq := (Ok m z hm').1
      show (tr_put S n (re_su K S n p) m).testBit l = ((tr_put S n (re_su K S n p) (tr_put P n p m)).testBit l || (decide (tr_put K n k (tr_put P n p m) = 2) && decide (l = tr_lc (tr_put K n k) (tr_put P n p m))))
      rw [tr_put_n S _ e, tr_put_n P _ e, tr_put_n S _ (show P m ≠ n by omega), tr_put_n K _ (show P m ≠ n by omega), tr_lc_put K n k (P m) (by omega)]
      exact b z l
/-- the lambdas of the scope under p: each is that of a LAM whose nest is the number of lambdas below it; there are as many as the nest says -/
theorem re_rank (A : re_A cs n h L K P N Lv S O B) {p : Nat} (hp : re_p K P n p) : (∀ l, (re_su K S n p).testBit l = true → ∃ b, b < n ∧ K b = 2 ∧ tr_lc K b = l ∧ tr_bc (fun j => (re_su K S n p).testBit j) l = N b) ∧ (∀ j, L ≤ j → tr_bc (fun j => (re_su K S n p).testBit j) j = re_nu K N n p) := by
  obtain ⟨Ok, _, _, _, hL, _, Nn, Sn, _, _, _⟩ := A
  have Ok' := tr_Ok_put (k := 1) Ok hp
  have N' := re_N_put (k := 1) Nn Ok hp
  have S' := re_S_put (k := 1) Sn Ok hp
  refine ⟨fun l hl => ?_, fun j hj => ?_⟩
  · obtain ⟨b, b1, b2, b3, b4, _⟩ := tr_sc_rank Ok' N' S' n (by omega) l (by
      show (tr_put S n (re_su K S n p) n).testBit l = true
      rw [tr_put_s]; exact hl)
    rw [tr_put_n K _ (show b ≠ n by omega)] at b2
    rw [tr_lc_put K n 1 b (by omega)] at b3
    rw [tr_put_n N _ (show b ≠ n by omega)] at b4
    refine ⟨b, b1, b2, b3, ?_⟩
    rw [← b4]
    refine tr_bc_c _ (fun i _ => ?_)
    show _ = (tr_put S n (re_su K S n p) n).testBit i
    rw [tr_put_s]
  · have := tr_sc_N Ok' N' S' n (by omega) j (by rw [tr_lc_put K n 1 n (Nat.le_refl n), ← hL]; exact hj)
    have e : tr_put N n (re_nu K N n p) n = re_nu K N n p := tr_put_s _ _ _
    rw [e] at this
    rw [← this]
    refine tr_bc_c _ (fun i _ => ?_)
    show _ = (tr_put S n (re_su K S n p) n).testBit i
    rw [tr_put_s]
theorem re_nu_5 (A : re_A cs n h L K P N Lv S O B) {p : Nat} (hp : re_p K P n p) : re_nu K N n p ≤ 5 ∧ re_lu K Lv n p ≤ 5 ∧ re_su K S n p < 65536 := by
  obtain ⟨Ok, _, _, _, hL, hL16, Nn, Sn, V, D, _⟩ := A
  unfold re_nu re_lu re_su
  by_cases z : n = 0
  · rw [if_pos z, if_pos z, if_pos z]; omega
  · rw [if_neg z, if_neg z, if_neg z]
    obtain ⟨a, b, _⟩ := hp (by omega)
    obtain ⟨d1, d2, d3, d4, d5⟩ := D p a
    by_cases k2 : K p = 2
    · rw [if_pos k2, if_pos k2, if_pos k2]
      have h1 := d3 k2
      have h2 := tr_lc_lt a k2
      have h3 : 2 ^ tr_lc K p < 2 ^ 16 := Nat.pow_lt_pow_right (by decide) (by omega)
      have h4 : S p ||| 2 ^ tr_lc K p < 2 ^ 16 := Nat.or_lt_two_pow d5 h3
      exact ⟨by omega, by omega, h4⟩
    · rw [if_neg k2, if_neg k2, if_neg k2]
      have := tr_ar_pos (show 0 < tr_ar (K p) by omega)
      have := d4 (by omega)
      exact ⟨d2, by omega, d5⟩
theorem re_put (A : re_A cs n h L K P N Lv S O B) {k p o l : Nat} (hh : 0 < h) (hk : k ≤ 6) (hc : n + h + tr_ar k ≤ cs) (hp : re_p K P n p)
    (hv : k = 0 → o < re_nu K N n p ∧ ∃ b, b < n ∧ K b = 2 ∧ (re_su K S n p).testBit (tr_lc K b) = true ∧ l = tr_lc K b ∧ N b + o + 1 = re_nu K N n p)
    (h2 : k = 2 → re_nu K N n p ≤ 4 ∧ L < 16) (h3 : 3 ≤ k → re_lu K Lv n p ≤ 4) :
    re_A cs (n + 1) (h + tr_ar k - 1) (if k = 2 then L + 1 else L) (tr_put K n k) (tr_put P n p) (tr_put N n (re_nu K N n p)) (tr_put Lv n (re_lu K Lv n p)) (tr_put S n (re_su K S n p)) (tr_put O n o) (tr_put B n l) := by
  obtain ⟨u1, u2, u3⟩ := re_nu_5 A hp
  obtain ⟨Ok, H, hb, hcs, hL, hL16, Nn, Sn, V, D, Vr⟩ := A
  have eL : (if k = 2 then L + 1 else L) = tr_lc (tr_put K n k) (n + 1) := by
    show _ = tr_lc (tr_put K n k) n + (if tr_put K n k n = 2 then 1 else 0)
    rw [tr_put_s, tr_lc_put K n k n (Nat.le_refl n), ← hL]
    by_cases z : k = 2
    · rw [if_pos z, if_pos z]
    · rw [if_neg z, if_neg z, Nat.add_zero]
  refine ⟨tr_Ok_put Ok hp, tr_H_put H hh, by omega, hcs, eL, ?_, re_N_put Nn Ok hp, re_S_put Sn Ok hp, re_V_put V Ok (fun m hm k3 => (D m hm).2.2.2.1 k3) hp, fun m hm => ?_, fun m hm km => ?_⟩
  · by_cases z : k = 2
    · rw [if_pos z]; have := (h2 z).2; omega
    · rw [if_neg z]; exact hL16
  · by_cases e : m = n
    · subst e
      rw [tr_put_s, tr_put_s, tr_put_s, tr_put_s]
      exact ⟨hk, u1, fun z => (h2 z).1, h3, u3⟩
    · rw [tr_put_n K _ e, tr_put_n N _ e, tr_put_n Lv _ e, tr_put_n S _ e]
      exact D m (by omega)
  · by_cases e : m = n
    · subst e
      rw [tr_put_s] at km
      obtain ⟨a1, b, b1, b2, b3, b4, b5⟩ := hv km
      rw [tr_put_s, tr_put_s, tr_put_s, tr_put_s]
      refine ⟨a1, b, b1, ?_, ?_, ?_, ?_⟩
      · rw [tr_put_n K _ (show b ≠ m by omega)]; exact b2
      · rw [tr_lc_put K m k b (by omega)]; exact b3
      · rw [tr_lc_put K m k b (by omega)]; exact b4
      · rw [tr_put_n N _ (show b ≠ m by omega)]; exact b5
    · rw [tr_put_n K _ e] at km
      obtain ⟨a1, b, b1, b2, b3, b4, b5⟩ := Vr m (by omega) km
      rw [tr_put_n N _ e, tr_put_n O _ e, tr_put_n S _ e, tr_put_n B _ e]
      refine ⟨a1, b, b1, ?_, ?_, ?_, ?_⟩
      · rw [tr_put_n K _ (show b ≠ n by omega)]; exact b2
      · rw [tr_lc_put K n k b (by omega)]; exact b3
      · rw [tr_lc_put K n k b (by omega)]; exact b4
      · rw [tr_put_n N _ (show b ≠ n by omega)]; exact b5
end
theorem re_A_0 {cs : Nat} (h1 : 1 ≤ cs) (h2 : cs ≤ 48) (K P N Lv S O B : Nat → Nat) : re_A cs 0 1 0 K P N Lv S O B :=
  ⟨fun m _ z => absurd z (Nat.not_lt_zero m), rfl, h1, h2, rfl, Nat.zero_le _, fun m z => absurd z (Nat.not_lt_zero m), fun m z => absurd z (Nat.not_lt_zero m), fun m z => absurd z (Nat.not_lt_zero m), fun m z => absurd z (Nat.not_lt_zero m), fun m z => absurd z (Nat.not_lt_zero m)⟩
/-! what a complete term gives -/
def re_ix (N O : Nat → Nat) : Nat → Nat := fun m => N m - 1 - O m
section
variable {cs n L : Nat} {K P N Lv S O B bd : Nat → Nat}
theorem re_full (A : re_A cs n 0 L K P N Lv S O B) : 0 < n ∧ tr_Full K P n := by
  have H : 0 + n = 1 + tr_sum (fun i => tr_ar (K i)) n := A.2.1
  exact ⟨by omega, tr_full_of A.1 A.2.1⟩
theorem re_ev_T (A : re_A cs n 0 L K P N Lv S O B) : ev_T K (tr_e P n) N (re_ix N O) n := by
  obtain ⟨hn, F⟩ := re_full A
  obtain ⟨Ok, H, hb, hcs, hL, hL16, Nn, Sn, V, D, Vr⟩ := A
  refine ⟨tr_T_of Ok F, tr_C_of Ok F Nn, by omega, fun m hm => (D m hm).1, fun m hm k => ?_⟩
  have := (Vr m hm k).1
  show N m - 1 - O m < N m
  omega
theorem re_tr_L (A : re_A cs n 0 L K P N Lv S O B) : tr_L K (tr_e P n) Lv n := by
  obtain ⟨hn, F⟩ := re_full A
  exact tr_L_of A.1 F A.2.2.2.2.2.2.2.2.1
theorem re_so_B (A : re_A cs n 0 L K P N Lv S O B) (hbd : ∀ m, m < n → K m = 2 → bd (tr_lc K m) = m + 1) : so_B K (tr_e P n) N (re_ix N O) B (tr_lc K) bd (fun m l => (S m).testBit l) n L := by
  obtain ⟨hn, F⟩ := re_full A
  obtain ⟨Ok, H, hb, hcs, hL, hL16, Nn, Sn, V, D, Vr⟩ := A
  refine so_B_of Ok F Nn Sn hL hbd (fun m hm k => ?_)
  obtain ⟨a1, b, b1, b2, b3, b4, b5⟩ := Vr m hm k
  refine ⟨b, by omega, b2, b3, b4, ?_⟩
  show N m - 1 - O m = N b
  omega
theorem re_so_T (A : re_A cs n 0 L K P N Lv S O B) (hbd : ∀ m, m < n → K m = 2 → bd (tr_lc K m) = m + 1) : so_T K (tr_e P n) B (tr_lc K) bd L n := by
  obtain ⟨hn, F⟩ := re_full A
  obtain ⟨Ok, H, hb, hcs, hL, hL16, Nn, Sn, V, D, Vr⟩ := A
  have T := tr_T_of Ok F
  refine ⟨T, by omega, hL16, fun m hm => (D m hm).1, fun m hm k => ?_, fun m hm k => ?_, fun l hl => ?_⟩
  · obtain ⟨a1, b, b1, b2, b3, b4, b5⟩ := Vr m hm k
    rw [b4, hL]
    exact tr_lc_lt (by omega) b2
  · rw [hL]; exact tr_lc_lt hm k
  · rw [hL] at hl
    obtain ⟨m, m1, m2, m3⟩ := tr_lc_find n hl
    rw [← m3, hbd m m1 m2]
    exact (tr_k2 T m1 m2).1
end
