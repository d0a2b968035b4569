/-! ===== the arrays that hold a solution; the flag that tells whether a pass has grown ===== -/
def so_X (n L : Nat) (t : so_S) (lv fl pf : Nat → Int32) : Prop := (∀ i, i < n → lv i = nI (t.1 i) ∧ fl i = nI (t.2.1 i)) ∧ (∀ l, l < L → pf l = nI (t.2.2 l))
theorem so_lv_id {t : so_S} {i : Nat} (h : t.1 i = 1) : so_lv t i = t := by
  obtain ⟨a, b, c⟩ := t
  have e : tr_put a i 1 = a := funext fun j => by
    by_cases z : j = i
    · subst z; rw [tr_put_s]; exact h.symm
    · rw [tr_put_n a _ z]
  show (tr_put a i 1, b, c) = (a, b, c)
  rw [e]
theorem so_fl_id {t : so_S} {i m : Nat} (h : so_sub m (t.2.1 i)) : so_fl t i m = t := by
  obtain ⟨a, b, c⟩ := t
  have h' : m ||| b i = b i := h
  have e : tr_put b i (b i ||| m) = b := funext fun j => by
    by_cases z : j = i
    · subst z; rw [tr_put_s, Nat.or_comm, h']
    · rw [tr_put_n b _ z]
  show (a, tr_put b i (b i ||| m), c) = (a, b, c)
  rw [e]
theorem so_pa_id {t : so_S} {i m : Nat} (h : so_sub m (t.2.2 i)) : so_pa t i m = t := by
  obtain ⟨a, b, c⟩ := t
  have h' : m ||| c i = c i := h
  have e : tr_put c i (c i ||| m) = c := funext fun j => by
    by_cases z : j = i
    · subst z; rw [tr_put_s, Nat.or_comm, h']
    · rw [tr_put_n c _ z]
  show (a, b, tr_put c i (c i ||| m)) = (a, b, c)
  rw [e]
def so_gr (g : Int32) (t0 t : so_S) : Prop := so_le t0 t ∧ so_01 t ∧ ((g = 0 ∧ t = t0) ∨ (g = 1 ∧ t ≠ t0))
theorem so_gr_0 {t : so_S} (h : so_01 t) : so_gr 0 t t := ⟨so_le_r t, h, Or.inl ⟨rfl, rfl⟩⟩
theorem so_gr_up {g : Int32} {t0 t u : so_S} (h : so_gr g t0 t) (l : so_le t u) (o : so_01 u) (ne : u ≠ t) : so_gr 1 t0 u := by
  obtain ⟨h1, h2, h3⟩ := h
  refine ⟨so_le_t h1 l, o, Or.inr ⟨rfl, fun z => ?_⟩⟩
  subst z
  exact ne (so_le_a h1 l)
theorem so_gr_lv {g : Int32} {t0 t : so_S} {i : Nat} (h : so_gr g t0 t) : (t.1 i = 1 → so_gr g t0 (so_lv t i)) ∧ (t.1 i ≠ 1 → so_gr 1 t0 (so_lv t i)) :=
  ⟨fun z => by rw [so_lv_id z]; exact h, fun z => so_gr_up h (so_lv_le h.2.1 i) (so_lv_01 h.2.1 i) (fun e => z (so_lv_fix e))⟩
theorem so_gr_fl {g : Int32} {t0 t : so_S} {i m : Nat} (h : so_gr g t0 t) : (so_sub m (t.2.1 i) → so_gr g t0 (so_fl t i m)) ∧ (¬ so_sub m (t.2.1 i) → so_gr 1 t0 (so_fl t i m)) :=
  ⟨fun z => by rw [so_fl_id z]; exact h, fun z => so_gr_up h (so_fl_le t i m) (so_fl_01 h.2.1 i m) (fun e => z (so_fl_fix e))⟩
theorem so_gr_pa {g : Int32} {t0 t : so_S} {i m : Nat} (h : so_gr g t0 t) : (so_sub m (t.2.2 i) → so_gr g t0 (so_pa t i m)) ∧ (¬ so_sub m (t.2.2 i) → so_gr 1 t0 (so_pa t i m)) :=
  ⟨fun z => by rw [so_pa_id z]; exact h, fun z => so_gr_up h (so_pa_le t i m) (so_pa_01 h.2.1 i m) (fun e => z (so_pa_fix e))⟩
section
variable {n L : Nat} {t : so_S} {lv fl pf : Nat → Int32}
theorem so_X_lv (X : so_X n L t lv fl pf) (i : Nat) : so_X n L (so_lv t i) (upd lv i (nI 1)) fl pf := by
  refine ⟨fun j hj => ⟨?_, (X.1 j hj).2⟩, X.2⟩
  show upd lv i (nI 1) j = nI (tr_put t.1 i 1 j)
  by_cases z : j = i
  · subst z; rw [re_us, tr_put_s]
  · rw [re_un z, tr_put_n _ _ z]; exact (X.1 j hj).1
theorem so_X_fl (X : so_X n L t lv fl pf) (i m : Nat) {x : Int32} (e : x = nI (t.2.1 i ||| m)) : so_X n L (so_fl t i m) lv (upd fl i x) pf := by
  refine ⟨fun j hj => ⟨(X.1 j hj).1, ?_⟩, X.2⟩
  show upd fl i x j = nI (tr_put t.2.1 i (t.2.1 i ||| m) j)
  by_cases z : j = i
  · subst z; rw [re_us, tr_put_s]; exact e
  · rw [re_un z, tr_put_n _ _ z]; exact (X.1 j hj).2
theorem so_X_pa (X : so_X n L t lv fl pf) (i m : Nat) {x : Int32} (e : x = nI (t.2.2 i ||| m)) : so_X n L (so_pa t i m) lv fl (upd pf i x) := by
  refine ⟨X.1, fun j hj => ?_⟩
  show upd pf i x j = nI (tr_put t.2.2 i (t.2.2 i ||| m) j)
  by_cases z : j = i
  · subst z; rw [re_us, tr_put_s]; exact e
  · rw [re_un z, tr_put_n _ _ z]; exact X.2 j hj
end
/-- lambdas behind L add nothing -/
theorem so_lp_16 {n L c0 c1 m : Nat} {bd : Nat → Nat} {t : so_S} (R : so_R n L t) (hm : m < n) (hb : ∀ l, l < L → bd l < n) : ∀ d, L + d ≤ 16 → so_lp c0 c1 m bd t (L + d) = so_lp c0 c1 m bd t L := by
  intro d
  induction d with
  | zero => intro _; rfl
  | succ d ih =>
    intro h
    show so_st c0 c1 m bd (so_lp c0 c1 m bd t (L + d)) (L + d) = _
    rw [ih (by omega)]
    unfold so_st
    rw [if_neg (fun z => ?_)]
    have := (so_R_lp R hm hb L (Nat.le_refl L)).2.2.2.1 c0 (L + d) z
    omega
/-! the reference's sum -/
theorem tr_sum_ge {f : Nat → Nat} {i : Nat} : ∀ n, i < n → f i ≤ tr_sum f n := by
  intro n
  induction n with
  | zero => intro h; exact absurd h (Nat.not_lt_zero i)
  | succ n ih =>
    intro h
    show f i ≤ tr_sum f n + f n
    by_cases z : i = n
    · subst z; omega
    · have := ih (by omega); omega
theorem so_V_lt {n L : Nat} {t : so_S} (hn : n ≤ 48) (hL : L ≤ 16) (R : so_R n L t) : so_V n t < 10000000 := by
  have h1 := tr_sum_bd (f := fun i => t.2.1 i) (c := 131071) n (fun i _ => by
    have := so_ms_lt hL (R.2.2.2.1 i)
    show t.2.1 i ≤ 131071
    omega)
  have h2 := tr_sum_bd (f := fun l => t.2.2 l) (c := 131071) 16 (fun i _ => by
    have := so_ms_lt hL (R.2.2.2.2 i)
    show t.2.2 i ≤ 131071
    omega)
  have h3 := tr_sum_bd (f := fun i => t.1 i) (c := 1) n (fun i _ => R.1 i)
  unfold so_V
  omega
theorem so_V_pos {n : Nat} {t : so_S} (hn : 0 < n) (h : t.1 0 = 1) : 1 ≤ so_V n t := by
  have := tr_sum_ge (f := fun i => t.1 i) n hn
  unfold so_V
  have h' : 1 ≤ tr_sum (fun i => t.1 i) n := by rw [← h]; exact this
  omega
theorem so_it_0 {K e bl lc bd : Nat → Nat} {L n : Nat} (T : so_T K e bl lc bd L n) (hn : 0 < n) (q : Nat) : (so_it (so_G K e bl lc bd L n) so_t0 q).1 0 = 1 := by
  have h1 := (so_le_it T hn q 0).1
  have h2 := (so_R_it T hn q).1 0
  have h3 : so_t0.1 0 = 1 := rfl
  rw [h3] at h1
  exact Nat.le_antisymm h2 h1
