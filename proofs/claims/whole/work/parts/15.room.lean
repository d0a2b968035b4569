/-! ===== the room for the code: the nodes of a piece are those of one key ===== -/
def em_f (ky : Nat → Nat) (k : Nat) : Nat → Nat := fun j => if ky j = k then 1 else 0
def em_kc (ky e : Nat → Nat) (m : Nat) : Nat := tr_sum (em_f ky (ky m)) (e m) - tr_sum (em_f ky (ky m)) m
theorem tr_sum_mono (f : Nat → Nat) {a b : Nat} (h : a ≤ b) : tr_sum f a ≤ tr_sum f b := by
  obtain ⟨d, rfl⟩ : ∃ d, b = a + d := ⟨b - a, by omega⟩
  clear h
  induction d with
  | zero => exact Nat.le_refl _
  | succ d ih =>
    show tr_sum f a ≤ tr_sum f (a + d) + f (a + d)
    omega
def em_ky (K e ky : Nat → Nat) (n : Nat) : Prop := ∀ p, p < n → 3 ≤ K p → ky (p + 1) = ky p ∧ ky (e (p + 1)) = ky p ∧ (K p = 6 → ky (e (e (p + 1))) = ky p)
theorem em_K_of {K e ky : Nat → Nat} {n : Nat} (T : tr_T K e n) (Y : em_ky K e ky n) : em_K K e (em_kc ky e) n := by
  intro m hm
  have h1 : tr_sum (em_f ky (ky m)) (m + 1) = tr_sum (em_f ky (ky m)) m + 1 := by
    show tr_sum (em_f ky (ky m)) m + (if ky m = ky m then 1 else 0) = _
    rw [if_pos rfl]
  have h2 := tr_sum_mono (em_f ky (ky m)) (show m + 1 ≤ e m from (T m hm).1)
  refine ⟨?_, fun k k6 => ?_, fun k6 => ?_⟩
  · unfold em_kc; omega
  · obtain ⟨y1, y2, _⟩ := Y m hm k
    have he := tr_k3 T hm k k6
    have h3 := tr_sum_mono (em_f ky (ky m)) (show m + 1 ≤ e (m + 1) by omega)
    have h4 := tr_sum_mono (em_f ky (ky m)) (show e (m + 1) ≤ e (e (m + 1)) by omega)
    unfold em_kc
    rw [y1, y2, he.2.2.2.2.2]
    omega
  · obtain ⟨y1, y2, y3⟩ := Y m hm (by omega)
    have he := tr_k6 T hm k6
    have h3 := tr_sum_mono (em_f ky (ky m)) (show m + 1 ≤ e (m + 1) by omega)
    have h4 := tr_sum_mono (em_f ky (ky m)) (show e (m + 1) ≤ e (e (m + 1)) by omega)
    have h5 := tr_sum_mono (em_f ky (ky m)) (show e (e (m + 1)) ≤ e (e (e (m + 1))) by omega)
    unfold em_kc
    rw [y1, y2, y3 k6, he.2.2.2.2.2.2.2]
    omega
/-- nodes with a key below j -/
def em_dd (ky : Nat → Nat) (n j : Nat) : Nat := tr_sum (fun i => if ky i < j then 1 else 0) n
theorem em_dd_s (ky : Nat → Nat) (n j : Nat) : em_dd ky n (j + 1) = em_dd ky n j + tr_sum (em_f ky j) n := by
  unfold em_dd
  rw [← tr_sum_add]
  refine tr_sum_c n (fun i _ => ?_)
  show (if ky i < j + 1 then 1 else 0) = (if ky i < j then 1 else 0) + (if ky i = j then 1 else 0)
  by_cases a : ky i < j
  · rw [if_pos a, if_pos (by omega), if_neg (by omega)]
  · by_cases b : ky i = j
    · rw [if_neg a, if_pos b, if_pos (by omega)]
    · rw [if_neg a, if_neg b, if_neg (by omega)]
theorem em_dd_n (ky : Nat → Nat) (n j : Nat) : em_dd ky n j ≤ n := by
  have := tr_sum_bd (f := fun i => if ky i < j then 1 else 0) (c := 1) n (fun i _ => by
    show (if ky i < j then 1 else 0) ≤ 1
    by_cases a : ky i < j
    · rw [if_pos a]; exact Nat.le_refl _
    · rw [if_neg a]; exact Nat.zero_le _)
  unfold em_dd
  omega
theorem em_kc_le {ky e : Nat → Nat} {n m j : Nat} (h : e m ≤ n) (k : ky m = j) : em_kc ky e m ≤ tr_sum (em_f ky j) n := by
  have := tr_sum_mono (em_f ky (ky m)) h
  unfold em_kc
  rw [k] at this ⊢
  omega
/-- the room before piece j is enough -/
theorem em_room {ky e : Nat → Nat} {n m j z : Nat} (hn : n ≤ 48) (hj : j ≤ 16) (h : e m ≤ n) (k : ky m = j) (hz : z ≤ 2 * em_dd ky n j + j) : z + 2 * em_kc ky e m ≤ 113 ∧ z + 2 * em_kc ky e m < 113 ∧ ∀ z', z' ≤ z + 2 * em_kc ky e m → z' + 1 ≤ 2 * em_dd ky n (j + 1) + (j + 1) := by
  have h1 := em_kc_le h k
  have h2 := em_dd_s ky n j
  have h3 := em_dd_n ky n (j + 1)
  exact ⟨by omega, by omega, fun z' hz' => by omega⟩
