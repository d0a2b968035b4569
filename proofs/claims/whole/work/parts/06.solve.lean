/-! ===== the solution: live marks (0 or 1), masks of nodes, masks of lambdas; one pass over the nodes in their order ===== -/
abbrev so_S : Type := (Nat → Nat) × (Nat → Nat) × (Nat → Nat)
def so_sub (a b : Nat) : Prop := a ||| b = b
theorem so_sub_bit {a b : Nat} : so_sub a b ↔ ∀ i, a.testBit i = true → b.testBit i = true := by
  constructor
  · intro h i hi
    have h' : a ||| b = b := h
    rw [← h', Nat.testBit_or, hi, Bool.true_or]
  · intro h
    show a ||| b = b
    apply Nat.eq_of_testBit_eq
    intro i
    rw [Nat.testBit_or]
    cases e : a.testBit i with
    | false => exact Bool.false_or _
    | true => rw [h i e, Bool.true_or]
theorem so_sub_r (a : Nat) : so_sub a a := Nat.or_self a
theorem so_sub_t {a b c : Nat} (h : so_sub a b) (g : so_sub b c) : so_sub a c := so_sub_bit.mpr (fun i hi => so_sub_bit.mp g i (so_sub_bit.mp h i hi))
theorem so_sub_a {a b : Nat} (h : so_sub a b) (g : so_sub b a) : a = b := by
  apply Nat.eq_of_testBit_eq
  intro i
  have h1 := so_sub_bit.mp h i
  have h2 := so_sub_bit.mp g i
  cases e : a.testBit i with
  | false =>
    cases e2 : b.testBit i with
    | false => rfl
    | true => rw [h2 e2] at e; cases e
  | true => rw [h1 e]
theorem so_sub_l (a b : Nat) : so_sub a (a ||| b) := so_sub_bit.mpr (fun i hi => by rw [Nat.testBit_or, hi, Bool.true_or])
theorem so_sub_o (a b : Nat) : so_sub b (a ||| b) := so_sub_bit.mpr (fun i hi => by rw [Nat.testBit_or, hi, Bool.or_true])
theorem so_sub_le {a b : Nat} (h : so_sub a b) : a ≤ b := by
  have h' : a ||| b = b := h
  rw [← h']
  exact Nat.left_le_or
def so_le (t u : so_S) : Prop := ∀ i, t.1 i ≤ u.1 i ∧ so_sub (t.2.1 i) (u.2.1 i) ∧ so_sub (t.2.2 i) (u.2.2 i)
theorem so_le_r (t : so_S) : so_le t t := fun _ => ⟨Nat.le_refl _, so_sub_r _, so_sub_r _⟩
theorem so_le_t {t u w : so_S} (h : so_le t u) (g : so_le u w) : so_le t w := fun i => ⟨Nat.le_trans (h i).1 (g i).1, so_sub_t (h i).2.1 (g i).2.1, so_sub_t (h i).2.2 (g i).2.2⟩
theorem so_le_a {t u : so_S} (h : so_le t u) (g : so_le u t) : t = u := by
  obtain ⟨a, b, c⟩ := t
  obtain ⟨a', b', c'⟩ := u
  have h1 : a = a' := funext fun i => Nat.le_antisymm (h i).1 (g i).1
  have h2 : b = b' := funext fun i => so_sub_a (h i).2.1 (g i).2.1
  have h3 : c = c' := funext fun i => so_sub_a (h i).2.2 (g i).2.2
  rw [h1, h2, h3]
def so_lv (t : so_S) (i : Nat) : so_S := (tr_put t.1 i 1, t.2.1, t.2.2)
def so_fl (t : so_S) (i m : Nat) : so_S := (t.1, tr_put t.2.1 i (t.2.1 i ||| m), t.2.2)
def so_pa (t : so_S) (l m : Nat) : so_S := (t.1, t.2.1, tr_put t.2.2 l (t.2.2 l ||| m))
/-- marks are 0 or 1 -/
def so_01 (t : so_S) : Prop := ∀ i, t.1 i ≤ 1
theorem so_lv_le {t : so_S} (h : so_01 t) (i : Nat) : so_le t (so_lv t i) := by
  intro j
  refine ⟨?_, so_sub_r _, so_sub_r _⟩
  show t.1 j ≤ (if j = i then 1 else t.1 j)
  by_cases z : j = i
  · rw [if_pos z]; exact h j
  · rw [if_neg z]; exact Nat.le_refl _
theorem so_fl_le (t : so_S) (i m : Nat) : so_le t (so_fl t i m) := by
  intro j
  refine ⟨Nat.le_refl _, ?_, so_sub_r _⟩
  show so_sub (t.2.1 j) (if j = i then t.2.1 i ||| m else t.2.1 j)
  by_cases z : j = i
  · rw [if_pos z, z]; exact so_sub_l _ _
  · rw [if_neg z]; exact so_sub_r _
theorem so_pa_le (t : so_S) (i m : Nat) : so_le t (so_pa t i m) := by
  intro j
  refine ⟨Nat.le_refl _, so_sub_r _, ?_⟩
  show so_sub (t.2.2 j) (if j = i then t.2.2 i ||| m else t.2.2 j)
  by_cases z : j = i
  · rw [if_pos z, z]; exact so_sub_l _ _
  · rw [if_neg z]; exact so_sub_r _
theorem so_lv_01 {t : so_S} (h : so_01 t) (i : Nat) : so_01 (so_lv t i) := by
  intro j
  show (if j = i then 1 else t.1 j) ≤ 1
  by_cases z : j = i
  · rw [if_pos z]; exact Nat.le_refl _
  · rw [if_neg z]; exact h j
theorem so_fl_01 {t : so_S} (h : so_01 t) (i m : Nat) : so_01 (so_fl t i m) := h
theorem so_pa_01 {t : so_S} (h : so_01 t) (i m : Nat) : so_01 (so_pa t i m) := h
theorem so_lv_fix {t : so_S} {i : Nat} (h : so_lv t i = t) : t.1 i = 1 := by
  have e := congrFun (congrArg (fun u : so_S => u.1) h) i
  have e' : tr_put t.1 i 1 i = t.1 i := e
  rw [tr_put_s] at e'
  exact e'.symm
theorem so_fl_fix {t : so_S} {i m : Nat} (h : so_fl t i m = t) : so_sub m (t.2.1 i) := by
  have e := congrFun (congrArg (fun u : so_S => u.2.1) h) i
  have e' : tr_put t.2.1 i (t.2.1 i ||| m) i = t.2.1 i := e
  rw [tr_put_s] at e'
  have := so_sub_o (t.2.1 i) m
  rwa [e'] at this
theorem so_pa_fix {t : so_S} {i m : Nat} (h : so_pa t i m = t) : so_sub m (t.2.2 i) := by
  have e := congrFun (congrArg (fun u : so_S => u.2.2) h) i
  have e' : tr_put t.2.2 i (t.2.2 i ||| m) i = t.2.2 i := e
  rw [tr_put_s] at e'
  have := so_sub_o (t.2.2 i) m
  rwa [e'] at this
/-! one lambda of a call, all lambdas of a call, one node, one pass -/
def so_st (c0 c1 n : Nat) (bd : Nat → Nat) (t : so_S) (l : Nat) : so_S :=
  if (t.2.1 c0).testBit l = true then so_fl (so_pa (so_lv t (bd l)) l (t.2.1 c1)) n (t.2.1 (bd l)) else t
def so_lp (c0 c1 n : Nat) (bd : Nat → Nat) (t : so_S) : Nat → so_S
  | 0 => t
  | l + 1 => so_st c0 c1 n bd (so_lp c0 c1 n bd t l) l
def so_g (K e bl lc bd : Nat → Nat) (L : Nat) (t : so_S) (n : Nat) : so_S :=
  if K n = 0 then so_fl t n (t.2.2 (bl n))
  else if K n = 1 then so_fl t n 65536
  else if K n = 2 then so_fl t n (2 ^ lc n)
  else if K n = 6 then
    (if (t.2.1 (n + 1)).testBit 16 = true then so_fl (so_lv (so_lv (so_lv t (n + 1)) (e (n + 1))) (e (e (n + 1)))) n (t.2.1 (e (n + 1)) ||| t.2.1 (e (e (n + 1)))) else so_lv t (n + 1))
  else if K n = 3 then
    (if t.2.1 (e (n + 1)) = 0 then so_lv (so_lv t (n + 1)) (e (n + 1)) else so_lp (n + 1) (e (n + 1)) n bd (so_lv (so_lv t (n + 1)) (e (n + 1))) L)
  else so_fl (so_lv (so_lv t (n + 1)) (e (n + 1))) n (t.2.1 (n + 1) &&& t.2.1 (e (n + 1)) &&& 65536)
def so_ps (K e bl lc bd : Nat → Nat) (L : Nat) (t : so_S) : Nat → so_S
  | 0 => t
  | i + 1 => if (so_ps K e bl lc bd L t i).1 i = 1 then so_g K e bl lc bd L (so_ps K e bl lc bd L t i) i else so_ps K e bl lc bd L t i
theorem so_st_up {c0 c1 n l : Nat} {bd : Nat → Nat} {t : so_S} (h : so_01 t) : so_le t (so_st c0 c1 n bd t l) ∧ so_01 (so_st c0 c1 n bd t l) := by
  unfold so_st
  by_cases z : (t.2.1 c0).testBit l = true
  · rw [if_pos z]
    exact ⟨so_le_t (so_le_t (so_lv_le h _) (so_pa_le _ _ _)) (so_fl_le _ _ _), so_lv_01 h _⟩
  · rw [if_neg z]
    exact ⟨so_le_r t, h⟩
theorem so_lp_up {c0 c1 n : Nat} {bd : Nat → Nat} {t : so_S} (h : so_01 t) : ∀ l, so_le t (so_lp c0 c1 n bd t l) ∧ so_01 (so_lp c0 c1 n bd t l) := by
  intro l
  induction l with
  | zero => exact ⟨so_le_r t, h⟩
  | succ l ih =>
    have := so_st_up (c0 := c0) (c1 := c1) (n := n) (l := l) (bd := bd) ih.2
    exact ⟨so_le_t ih.1 this.1, this.2⟩
theorem so_lp_mono {c0 c1 n : Nat} {bd : Nat → Nat} {t : so_S} (h : so_01 t) (l : Nat) : ∀ d, so_le (so_lp c0 c1 n bd t l) (so_lp c0 c1 n bd t (l + d)) := by
  intro d
  induction d with
  | zero => exact so_le_r _
  | succ d ih => exact so_le_t ih (so_st_up (so_lp_up h (l + d)).2).1
section
variable (K e bl lc bd : Nat → Nat) (L : Nat)
theorem so_g_up {t : so_S} (h : so_01 t) (n : Nat) : so_le t (so_g K e bl lc bd L t n) ∧ so_01 (so_g K e bl lc bd L t n) := by
  have h2 : so_le t (so_lv (so_lv t (n + 1)) (e (n + 1))) := so_le_t (so_lv_le h _) (so_lv_le (so_lv_01 h _) _)
  have h3 : so_01 (so_lv (so_lv t (n + 1)) (e (n + 1))) := so_lv_01 (so_lv_01 h _) _
  unfold so_g
  by_cases k0 : K n = 0
  · rw [if_pos k0]; exact ⟨so_fl_le _ _ _, h⟩
  rw [if_neg k0]
  by_cases k1 : K n = 1
  · rw [if_pos k1]; exact ⟨so_fl_le _ _ _, h⟩
  rw [if_neg k1]
  by_cases k2 : K n = 2
  · rw [if_pos k2]; exact ⟨so_fl_le _ _ _, h⟩
  rw [if_neg k2]
  by_cases k6 : K n = 6
  · rw [if_pos k6]
    by_cases z : (t.2.1 (n + 1)).testBit 16 = true
    · rw [if_pos z]
      exact ⟨so_le_t (so_le_t h2 (so_lv_le h3 _)) (so_fl_le _ _ _), so_lv_01 h3 _⟩
    · rw [if_neg z]
      exact ⟨so_lv_le h _, so_lv_01 h _⟩
  rw [if_neg k6]
  by_cases k3 : K n = 3
  · rw [if_pos k3]
    by_cases z : t.2.1 (e (n + 1)) = 0
    · rw [if_pos z]; exact ⟨h2, h3⟩
    · rw [if_neg z]
      have := so_lp_up (c0 := n + 1) (c1 := e (n + 1)) (n := n) (bd := bd) h3 L
      exact ⟨so_le_t h2 this.1, this.2⟩
  rw [if_neg k3]
  exact ⟨so_le_t h2 (so_fl_le _ _ _), h3⟩
theorem so_ps_up {t : so_S} (h : so_01 t) : ∀ i, so_le t (so_ps K e bl lc bd L t i) ∧ so_01 (so_ps K e bl lc bd L t i) := by
  intro i
  induction i with
  | zero => exact ⟨so_le_r t, h⟩
  | succ i ih =>
    show so_le t (if (so_ps K e bl lc bd L t i).1 i = 1 then so_g K e bl lc bd L (so_ps K e bl lc bd L t i) i else so_ps K e bl lc bd L t i) ∧ so_01 (if (so_ps K e bl lc bd L t i).1 i = 1 then so_g K e bl lc bd L (so_ps K e bl lc bd L t i) i else so_ps K e bl lc bd L t i)
    by_cases z : (so_ps K e bl lc bd L t i).1 i = 1
    · rw [if_pos z]
      have := so_g_up K e bl lc bd L ih.2 i
      exact ⟨so_le_t ih.1 this.1, this.2⟩
    · rw [if_neg z]; exact ih
theorem so_ps_mono {t : so_S} (h : so_01 t) (i : Nat) : ∀ d, so_le (so_ps K e bl lc bd L t i) (so_ps K e bl lc bd L t (i + d)) := by
  intro d
  induction d with
  | zero => exact so_le_r _
  | succ d ih =>
    refine so_le_t ih ?_
    show so_le _ (if (so_ps K e bl lc bd L t (i + d)).1 (i + d) = 1 then so_g K e bl lc bd L (so_ps K e bl lc bd L t (i + d)) (i + d) else so_ps K e bl lc bd L t (i + d))
    by_cases z : (so_ps K e bl lc bd L t (i + d)).1 (i + d) = 1
    · rw [if_pos z]; exact (so_g_up K e bl lc bd L (so_ps_up K e bl lc bd L h (i + d)).2 (i + d)).1
    · rw [if_neg z]; exact so_le_r _
/-- a pass that changes nothing: no node changes anything -/
theorem so_fix_g {t : so_S} {n : Nat} (h : so_01 t) (F : so_ps K e bl lc bd L t n = t) : ∀ i, i < n → t.1 i = 1 → so_g K e bl lc bd L t i = t := by
  have same : ∀ i, i ≤ n → so_ps K e bl lc bd L t i = t := fun i hi => by
    refine (so_le_a (so_ps_up K e bl lc bd L h i).1 ?_).symm
    have := so_ps_mono K e bl lc bd L h i (n - i)
    rwa [Nat.add_sub_cancel' hi, F] at this
  intro i hi hl
  have h1 := same (i + 1) (by omega)
  have h2 : (if (so_ps K e bl lc bd L t i).1 i = 1 then so_g K e bl lc bd L (so_ps K e bl lc bd L t i) i else so_ps K e bl lc bd L t i) = t := h1
  rw [same i (by omega), if_pos hl] at h2
  exact h2
end
/-! what a fixed point says (the rules of the solution) -/
def so_Cl (K e bl lc bd : Nat → Nat) (L n : Nat) (t : so_S) : Prop := ∀ m, m < n → t.1 m = 1 →
  (K m = 0 → so_sub (t.2.2 (bl m)) (t.2.1 m)) ∧ (K m = 1 → (t.2.1 m).testBit 16 = true) ∧ (K m = 2 → (t.2.1 m).testBit (lc m) = true) ∧
  (3 ≤ K m → t.1 (m + 1) = 1) ∧ (3 ≤ K m → K m ≠ 6 → t.1 (e (m + 1)) = 1) ∧
  (4 ≤ K m → K m ≠ 6 → (t.2.1 (m + 1)).testBit 16 = true → (t.2.1 (e (m + 1))).testBit 16 = true → (t.2.1 m).testBit 16 = true) ∧
  (K m = 6 → (t.2.1 (m + 1)).testBit 16 = true → t.1 (e (m + 1)) = 1 ∧ t.1 (e (e (m + 1))) = 1 ∧ so_sub (t.2.1 (e (m + 1))) (t.2.1 m) ∧ so_sub (t.2.1 (e (e (m + 1)))) (t.2.1 m)) ∧
  (K m = 3 → t.2.1 (e (m + 1)) ≠ 0 → ∀ l, l < L → (t.2.1 (m + 1)).testBit l = true → t.1 (bd l) = 1 ∧ so_sub (t.2.1 (e (m + 1))) (t.2.2 l) ∧ so_sub (t.2.1 (bd l)) (t.2.1 m))
theorem so_lp_fix {c0 c1 n L : Nat} {bd : Nat → Nat} {t : so_S} (h : so_01 t) (F : so_lp c0 c1 n bd t L = t) : ∀ l, l < L → (t.2.1 c0).testBit l = true → t.1 (bd l) = 1 ∧ so_sub (t.2.1 c1) (t.2.2 l) ∧ so_sub (t.2.1 (bd l)) (t.2.1 n) := by
  have same : ∀ l, l ≤ L → so_lp c0 c1 n bd t l = t := fun l hl => by
    refine (so_le_a (so_lp_up h l).1 ?_).symm
    have := so_lp_mono (c0 := c0) (c1 := c1) (n := n) (bd := bd) h l (L - l)
    rwa [Nat.add_sub_cancel' hl, F] at this
  intro l hl hb
  have h1 : so_st c0 c1 n bd (so_lp c0 c1 n bd t l) l = t := same (l + 1) (by omega)
  rw [same l (by omega)] at h1
  unfold so_st at h1
  rw [if_pos hb] at h1
  have a1 : so_lv t (bd l) = t := (so_le_a (so_lv_le h _) (by
    have := so_le_t (so_pa_le (so_lv t (bd l)) l (t.2.1 c1)) (so_fl_le _ n (t.2.1 (bd l)))
    rwa [h1] at this)).symm
  rw [a1] at h1
  have a2 : so_pa t l (t.2.1 c1) = t := (so_le_a (so_pa_le _ _ _) (by
    have := so_fl_le (so_pa t l (t.2.1 c1)) n (t.2.1 (bd l))
    rwa [h1] at this)).symm
  rw [a2] at h1
  exact ⟨so_lv_fix a1, so_pa_fix a2, so_fl_fix h1⟩
theorem so_or_l {a b c : Nat} (h : so_sub (a ||| b) c) : so_sub a c := so_sub_t (so_sub_l a b) h
theorem so_or_r {a b c : Nat} (h : so_sub (a ||| b) c) : so_sub b c := so_sub_t (so_sub_o a b) h
theorem so_Cl_of {K e bl lc bd : Nat → Nat} {L n : Nat} {t : so_S} (h : so_01 t) (F : so_ps K e bl lc bd L t n = t) : so_Cl K e bl lc bd L n t := by
  intro m hm hl
  have g := so_fix_g K e bl lc bd L h F m hm hl
  unfold so_g at g
  have b65 : (65536 : Nat).testBit 16 = true := by decide
  by_cases k0 : K m = 0
  · rw [if_pos k0] at g
    exact ⟨fun _ => so_fl_fix g, fun z => by omega, fun z => by omega, fun z => by omega, fun z => by omega, fun z => by omega, fun z => by omega, fun z => by omega⟩
  rw [if_neg k0] at g
  by_cases k1 : K m = 1
  · rw [if_pos k1] at g
    exact ⟨fun z => by omega, fun _ => so_sub_bit.mp (so_fl_fix g) 16 b65, fun z => by omega, fun z => by omega, fun z => by omega, fun z => by omega, fun z => by omega, fun z => by omega⟩
  rw [if_neg k1] at g
  by_cases k2 : K m = 2
  · rw [if_pos k2] at g
    exact ⟨fun z => by omega, fun z => by omega, fun _ => so_sub_bit.mp (so_fl_fix g) (lc m) Nat.testBit_two_pow_self, fun z => by omega, fun z => by omega, fun z => by omega, fun z => by omega, fun z => by omega⟩
  rw [if_neg k2] at g
  have l1 := so_lv_le h (m + 1)
  have o1 := so_lv_01 h (m + 1)
  have l2 := so_lv_le o1 (e (m + 1))
  have o2 := so_lv_01 o1 (e (m + 1))
  by_cases k6 : K m = 6
  · rw [if_pos k6] at g
    by_cases z : (t.2.1 (m + 1)).testBit 16 = true
    · rw [if_pos z] at g
      have l3 := so_lv_le o2 (e (e (m + 1)))
      have l4 := so_fl_le (so_lv (so_lv (so_lv t (m + 1)) (e (m + 1))) (e (e (m + 1)))) m (t.2.1 (e (m + 1)) ||| t.2.1 (e (e (m + 1))))
      rw [g] at l4
      have a1 : so_lv t (m + 1) = t := (so_le_a l1 (so_le_t l2 (so_le_t l3 l4))).symm
      rw [a1] at l2 l3 l4 g
      have a2 : so_lv t (e (m + 1)) = t := (so_le_a l2 (so_le_t l3 l4)).symm
      rw [a2] at l3 l4 g
      have a3 : so_lv t (e (e (m + 1))) = t := (so_le_a l3 l4).symm
      rw [a3] at g
      have a4 := so_fl_fix g
      exact ⟨fun z => by omega, fun z => by omega, fun z => by omega, fun _ => so_lv_fix a1, fun _ z => absurd k6 z, fun _ z => absurd k6 z, fun _ _ => ⟨so_lv_fix a2, so_lv_fix a3, so_or_l a4, so_or_r a4⟩, fun z => by omega⟩
    · rw [if_neg z] at g
      exact ⟨fun z => by omega, fun z => by omega, fun z => by omega, fun _ => so_lv_fix g, fun _ z => absurd k6 z, fun _ z => absurd k6 z, fun _ y => absurd y z, fun z => by omega⟩
  rw [if_neg k6] at g
  by_cases k3 : K m = 3
  · rw [if_pos k3] at g
    by_cases z : t.2.1 (e (m + 1)) = 0
    · rw [if_pos z] at g
      rw [g] at l2
      have a1 : so_lv t (m + 1) = t := (so_le_a l1 l2).symm
      rw [a1] at g
      exact ⟨fun z => by omega, fun z => by omega, fun z => by omega, fun _ => so_lv_fix a1, fun _ _ => so_lv_fix g, fun z => by omega, fun z => by omega, fun _ y => absurd z y⟩
    · rw [if_neg z] at g
      have l4 := (so_lp_up (c0 := m + 1) (c1 := e (m + 1)) (n := m) (bd := bd) o2 L).1
      rw [g] at l4
      have a1 : so_lv t (m + 1) = t := (so_le_a l1 (so_le_t l2 l4)).symm
      rw [a1] at l2 l4 g
      have a2 : so_lv t (e (m + 1)) = t := (so_le_a l2 l4).symm
      rw [a2] at g
      exact ⟨fun z => by omega, fun z => by omega, fun z => by omega, fun _ => so_lv_fix a1, fun _ _ => so_lv_fix a2, fun z => by omega, fun z => by omega, fun _ _ => so_lp_fix h g⟩
  rw [if_neg k3] at g
  have l4 := so_fl_le (so_lv (so_lv t (m + 1)) (e (m + 1))) m (t.2.1 (m + 1) &&& t.2.1 (e (m + 1)) &&& 65536)
  rw [g] at l4
  have a1 : so_lv t (m + 1) = t := (so_le_a l1 (so_le_t l2 l4)).symm
  rw [a1] at l2 l4 g
  have a2 : so_lv t (e (m + 1)) = t := (so_le_a l2 l4).symm
  rw [a2] at g
  have a4 := so_sub_bit.mp (so_fl_fix g) 16
  exact ⟨fun z => by omega, fun z => by omega, fun z => by omega, fun _ => so_lv_fix a1, fun _ _ => so_lv_fix a2, fun _ _ x y => a4 (by rw [Nat.testBit_and, Nat.testBit_and, x, y, b65]; rfl), fun z => absurd z k6, fun z => absurd z k3⟩
/-! iteration -/
def so_it (G : so_S → so_S) (t : so_S) : Nat → so_S
  | 0 => t
  | q + 1 => G (so_it G t q)
theorem so_it_fix {G : so_S → so_S} {t : so_S} {q : Nat} (h : G (so_it G t q) = so_it G t q) : ∀ d, so_it G t (q + d) = so_it G t q := by
  intro d
  induction d with
  | zero => rfl
  | succ d ih =>
    show G (so_it G t (q + d)) = _
    rw [ih, h]
theorem so_it_one {G : so_S → so_S} {t : so_S} {q r : Nat} (h : G (so_it G t q) = so_it G t q) (g : G (so_it G t r) = so_it G t r) : so_it G t q = so_it G t r := by
  rcases Nat.le_total q r with z | z
  · have := so_it_fix h (r - q)
    rw [Nat.add_sub_cancel' z] at this
    exact this.symm
  · have := so_it_fix g (q - r)
    rw [Nat.add_sub_cancel' z] at this
    exact this
