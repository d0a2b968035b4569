/-! ===== the l-th LAM ===== -/
def tr_ln (K : Nat → Nat) : Nat → Nat → Nat
  | 0, _ => 0
  | n + 1, l => if K n = 2 ∧ tr_lc K n = l then n else tr_ln K n l
theorem tr_ln_is {K : Nat → Nat} {m : Nat} (k : K m = 2) : ∀ n, m < n → tr_ln K n (tr_lc K m) = m := by
  intro n
  induction n with
  | zero => intro h; exact absurd h (Nat.not_lt_zero m)
  | succ n ih =>
    intro h
    show (if K n = 2 ∧ tr_lc K n = tr_lc K m then n else tr_ln K n (tr_lc K m)) = m
    by_cases z : K n = 2 ∧ tr_lc K n = tr_lc K m
    · rw [if_pos z]; exact tr_lc_inj z.1 k z.2
    · rw [if_neg z]
      refine ih ?_
      rcases Nat.lt_or_ge m n with q | q
      · exact q
      · have : m = n := by omega
        subst this
        exact absurd ⟨k, rfl⟩ z
theorem tr_ln_of {K : Nat → Nat} {n l : Nat} (h : l < tr_lc K n) : tr_ln K n l < n ∧ K (tr_ln K n l) = 2 ∧ tr_lc K (tr_ln K n l) = l := by
  obtain ⟨m, a, b, c⟩ := tr_lc_find n h
  have e := tr_ln_is b n a
  rw [c] at e
  rw [e]
  exact ⟨a, b, c⟩
def re_bd (K : Nat → Nat) (n : Nat) : Nat → Nat := fun l => tr_ln K n l + 1
theorem re_bd_is {K : Nat → Nat} {n : Nat} : ∀ m, m < n → K m = 2 → re_bd K n (tr_lc K m) = m + 1 := fun m hm k => by
  unfold re_bd
  rw [tr_ln_is k n hm]
/-! ===== the arrays of the class ===== -/
def re_C (n : Nat) (P : Nat → Nat) (ch : Nat → Int32) : Prop := ∀ p, p < n → ∀ k, k < 3 → (∀ c, 0 < c → c < n → P c = p → tr_cnt P p c = k → ch (p * 3 + k) = nI c) ∧ (tr_cnt P p n ≤ k → ch (p * 3 + k) = -1)
theorem re_C_put {K P : Nat → Nat} {n p : Nat} {ch ch' : Nat → Int32} (Ok : tr_Ok K P n) (hp : re_p K P n p) (C : re_C n P ch) (h1 : ∀ k, k < 3 → ch' (n * 3 + k) = -1) (h2 : 0 < n → ch' (p * 3 + tr_cnt P p n) = nI n) (h3 : ∀ j, j < n * 3 → (0 < n → j ≠ p * 3 + tr_cnt P p n) → ch' j = ch j) (h4 : 0 < n → tr_cnt P p n < 3) : re_C (n + 1) (tr_put P n p) ch' := by
  intro q hq k hk
  by_cases e : q = n
  · subst e
    refine ⟨fun c c0 c1 c2 _ => ?_, fun _ => h1 k hk⟩
    by_cases z : c = q
    · subst z
      rw [tr_put_s] at c2
      have := (hp c0).1
      omega
    · rw [tr_put_n P _ z] at c2
      have := (Ok c c0 (by omega)).1
      omega
  · have hq' : q < n := by omega
    obtain ⟨a, b⟩ := C q hq' k hk
    have h4' := h4 (by omega)
    refine ⟨fun c c0 c1 c2 c3 => ?_, fun z => ?_⟩
    · rw [tr_cnt_put P n p q c (by omega)] at c3
      by_cases z : c = n
      · subst z
        rw [tr_put_s] at c2
        subst c2
        rw [← c3]
        exact h2 (by omega)
      · rw [tr_put_n P _ z] at c2
        rw [h3 (q * 3 + k) (by omega) (fun _ w => ?_)]
        · exact a c c0 (by omega) c2 c3
        · have e1 : q = p := by omega
          have e2 : k = tr_cnt P p n := by omega
          have e3 := tr_cnt_s c0 c2
          have e4 := tr_cnt_le (P := P) (p := q) (show c + 1 ≤ n by omega)
          rw [e1] at e3 e4 c3
          omega
    · have z' : tr_cnt (tr_put P n p) q n + (if 0 < n ∧ tr_put P n p n = q then 1 else 0) ≤ k := z
      rw [tr_cnt_put P n p q n (Nat.le_refl n), tr_put_s] at z'
      rw [h3 (q * 3 + k) (by omega) (fun _ w => ?_)]
      · refine b ?_
        exact Nat.le_trans (Nat.le_add_right _ _) z'
      · have e1 : q = p := by omega
        have e2 : k = tr_cnt P p n := by omega
        rw [if_pos ⟨by omega, e1.symm⟩, e1] at z'
        omega
/-- the arrays of the class that tell the term -/
def re_X (n : Nat) (K P N Lv S O B : Nat → Nat) (kd od pa pl ch le ne sc nl ln : Nat → Int32) : Prop :=
  (∀ m, m < n → kd m = nI (K m)) ∧ (∀ m, m < n → K m = 0 → od m = nI (O m)) ∧ (0 < n → pa 0 = -1) ∧ (∀ m, 0 < m → m < n → pa m = nI (P m)) ∧
  (∀ m, 0 < m → m < n → pl m = nI (tr_cnt P (P m) m)) ∧ re_C n P ch ∧
  (∀ m, m < n → le m = nI (Lv m) ∧ ne m = nI (N m) ∧ sc m = nI (S m)) ∧
  (∀ m, m < n → (K m = 0 → nl m = nI (B m)) ∧ (K m = 2 → nl m = nI (tr_lc K m)) ∧ (K m ≠ 0 → K m ≠ 2 → nl m = -1)) ∧
  (∀ m, m < n → K m = 2 → ln (tr_lc K m) = nI m)
theorem re_us {f : Nat → Int32} {k : Nat} {x : Int32} : upd f k x k = x := if_pos rfl
theorem re_un {f : Nat → Int32} {k j : Nat} {x : Int32} (h : j ≠ k) : upd f k x j = f j := if_neg h
theorem re_X_put {n k p o l nu lu su : Nat} {K P N Lv S O B : Nat → Nat} {kd od pa pl ch le ne sc nl ln ch' ln' : Nat → Int32} {od1 pa1 pl1 nl1 : Int32} (Ok : tr_Ok K P n) (hp : re_p K P n p) (X : re_X n K P N Lv S O B kd od pa pl ch le ne sc nl ln)
    (C : re_C (n + 1) (tr_put P n p) ch') (e1 : k = 0 → od1 = nI o) (e2 : n = 0 → pa1 = -1) (e3 : 0 < n → pa1 = nI p) (e4 : 0 < n → pl1 = nI (tr_cnt P p n)) (e5 : k = 0 → nl1 = nI l) (e6 : k = 2 → nl1 = nI (tr_lc K n)) (e7 : k ≠ 0 → k ≠ 2 → nl1 = -1)
    (e8 : k = 2 → ln' = upd ln (tr_lc K n) (nI n)) (e9 : k ≠ 2 → ln' = ln) :
    re_X (n + 1) (tr_put K n k) (tr_put P n p) (tr_put N n nu) (tr_put Lv n lu) (tr_put S n su) (tr_put O n o) (tr_put B n l) (upd kd n (nI k)) (upd od n od1) (upd pa n pa1) (upd pl n pl1) ch' (upd le n (nI lu)) (upd ne n (nI nu)) (upd sc n (nI su)) (upd nl n nl1) ln' := by
  obtain ⟨x1, x2, x3, x4, x5, x6, x7, x8, x9⟩ := X
  refine ⟨fun m hm => ?_, fun m hm km => ?_, fun _ => ?_, fun m h0 hm => ?_, fun m h0 hm => ?_, C, fun m hm => ?_, fun m hm => ?_, fun m hm km => ?_⟩
  · by_cases e : m = n
    · subst e; rw [re_us, tr_put_s]
    · rw [re_un e, tr_put_n K _ e]; exact x1 m (by omega)
  · by_cases e : m = n
    · subst e
      rw [tr_put_s] at km
      rw [re_us, tr_put_s]; exact e1 km
    · rw [tr_put_n K _ e] at km
      rw [re_un e, tr_put_n O _ e]; exact x2 m (by omega) km
  · by_cases e : 0 = n
    · subst e; rw [re_us]; exact e2 rfl
    · rw [re_un e]; exact x3 (by omega)
  · by_cases e : m = n
    · subst e; rw [re_us, tr_put_s]; exact e3 h0
    · rw [re_un e, tr_put_n P _ e]; exact x4 m h0 (by omega)
  · by_cases e : m = n
    · subst e
      rw [re_us, tr_put_s, tr_cnt_put P m p p m (Nat.le_refl m)]; exact e4 h0
    · rw [re_un e, tr_put_n P _ e, tr_cnt_put P n p _ m (by omega)]; exact x5 m h0 (by omega)
  · by_cases e : m = n
    · subst e
      rw [re_us, re_us, re_us, tr_put_s, tr_put_s, tr_put_s]
      exact ⟨rfl, rfl, rfl⟩
    · rw [re_un e, re_un e, re_un e, tr_put_n Lv _ e, tr_put_n N _ e, tr_put_n S _ e]
      exact x7 m (by omega)
  · by_cases e : m = n
    · subst e
      rw [tr_put_s, re_us, tr_put_s, tr_lc_put K m k m (Nat.le_refl m)]
      exact ⟨e5, e6, e7⟩
    · rw [tr_put_n K _ e, re_un e, tr_put_n B _ e, tr_lc_put K n k m (by omega)]
      exact x8 m (by omega)
  · by_cases e : m = n
    · subst e
      rw [tr_put_s] at km
      rw [tr_lc_put K m k m (Nat.le_refl m), e8 km, re_us]
    · rw [tr_put_n K _ e] at km
      rw [tr_lc_put K n k m (by omega)]
      by_cases z : k = 2
      · have := tr_lc_lt (K := K) (show m < n by omega) km
        rw [e8 z, re_un (by omega)]
        exact x9 m (by omega) km
      · rw [e9 z]; exact x9 m (by omega) km
/-! the children of a complete term -/
section
variable {cs n L : Nat} {K P N Lv S O B : Nat → Nat} {kd od pa pl ch le ne sc nl ln : Nat → Int32}
theorem re_kid0 (A : re_A cs n 0 L K P N Lv S O B) (X : re_X n K P N Lv S O B kd od pa pl ch le ne sc nl ln) {m : Nat} (hm : m < n) (k : 2 ≤ K m) : m + 1 < n ∧ ch (m * 3 + 0) = nI (m + 1) ∧ pa (m + 1) = nI m ∧ pl (m + 1) = nI 0 := by
  obtain ⟨hn, F⟩ := re_full A
  have ha : 0 < tr_ar (K m) := by
    by_cases k2 : K m = 2
    · rw [tr_ar_1 k2]; omega
    · by_cases k6 : K m = 6
      · rw [tr_ar_3 k6]; omega
      · rw [tr_ar_2 (by omega) k6]; omega
  obtain ⟨a, b, c⟩ := tr_first A.1 F hm ha
  refine ⟨a, (X.2.2.2.2.2.1 m hm 0 (by omega)).1 _ (by omega) a b c, ?_, ?_⟩
  · rw [X.2.2.2.1 _ (by omega) a, b]
  · rw [X.2.2.2.2.1 _ (by omega) a, b, c]
theorem re_kid1 (A : re_A cs n 0 L K P N Lv S O B) (X : re_X n K P N Lv S O B kd od pa pl ch le ne sc nl ln) {m : Nat} (hm : m < n) (k : 3 ≤ K m) : tr_e P n (m + 1) < n ∧ ch (m * 3 + 1) = nI (tr_e P n (m + 1)) ∧ pa (tr_e P n (m + 1)) = nI m ∧ pl (tr_e P n (m + 1)) = nI 1 := by
  obtain ⟨hn, F⟩ := re_full A
  have ha : 2 ≤ tr_ar (K m) := by
    by_cases k6 : K m = 6
    · rw [tr_ar_3 k6]; omega
    · rw [tr_ar_2 k k6]; omega
  obtain ⟨a, b, c⟩ := tr_kid1 A.1 F hm ha
  have h0 : 0 < tr_e P n (m + 1) := by
    have := (tr_par2 A.1 F hm k).1
    omega
  refine ⟨a, (X.2.2.2.2.2.1 m hm 1 (by omega)).1 _ h0 a b c, ?_, ?_⟩
  · rw [X.2.2.2.1 _ h0 a, b]
  · rw [X.2.2.2.2.1 _ h0 a, b, c]
theorem re_kid2 (A : re_A cs n 0 L K P N Lv S O B) (X : re_X n K P N Lv S O B kd od pa pl ch le ne sc nl ln) {m : Nat} (hm : m < n) (k : K m = 6) : tr_e P n (tr_e P n (m + 1)) < n ∧ ch (m * 3 + 2) = nI (tr_e P n (tr_e P n (m + 1))) ∧ pa (tr_e P n (tr_e P n (m + 1))) = nI m ∧ pl (tr_e P n (tr_e P n (m + 1))) = nI 2 := by
  obtain ⟨hn, F⟩ := re_full A
  have ha : 3 ≤ tr_ar (K m) := by rw [tr_ar_3 k]; omega
  obtain ⟨a, b, c⟩ := tr_kid2 A.1 F hm ha
  have h0 : 0 < tr_e P n (tr_e P n (m + 1)) := by
    have := (tr_par3 A.1 F hm k).1
    omega
  refine ⟨a, (X.2.2.2.2.2.1 m hm 2 (by omega)).1 _ h0 a b c, ?_, ?_⟩
  · rw [X.2.2.2.1 _ h0 a, b]
  · rw [X.2.2.2.2.1 _ h0 a, b, c]
/-- setNumber leaves the term alone -/
theorem re_X_num (X : re_X n K P N Lv S O B kd od pa pl ch le ne sc nl ln) {m : Nat} {v : Int32} (k : K m = 1) : re_X n K P N Lv S O B kd (upd od m v) pa pl ch le ne sc nl ln := by
  obtain ⟨x1, x2, x3⟩ := X
  refine ⟨x1, fun j hj kj => ?_, x3⟩
  rw [re_un (fun z => by subst z; omega)]
  exact x2 j hj kj
end
theorem re_X_0 (K P N Lv S O B : Nat → Nat) (kd od pa pl ch le ne sc nl ln : Nat → Int32) : re_X 0 K P N Lv S O B kd od pa pl ch le ne sc nl ln :=
  ⟨fun m z => absurd z (Nat.not_lt_zero m), fun m z => absurd z (Nat.not_lt_zero m), fun z => absurd z (Nat.lt_irrefl 0), fun m _ z => absurd z (Nat.not_lt_zero m), fun m _ z => absurd z (Nat.not_lt_zero m), fun m z => absurd z (Nat.not_lt_zero m), fun m z => absurd z (Nat.not_lt_zero m), fun m z => absurd z (Nat.not_lt_zero m), fun m z => absurd z (Nat.not_lt_zero m)⟩
