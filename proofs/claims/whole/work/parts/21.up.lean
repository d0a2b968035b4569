/-! ===== up the ancestors ===== -/
/-- a is an ancestor of m; x LAMs are still to be passed; the LAM sought has nest t -/
def re_w (K N S : Nat → Nat) (n m a x t : Nat) : Prop := a < n ∧ a < m ∧ t + x + 1 = (if K a = 2 then N a + 1 else N a) ∧ (∀ l, (S a).testBit l = true → (S m).testBit l = true) ∧ (K a = 2 → (S m).testBit (tr_lc K a) = true)
section
variable {cs n h L : Nat} {K P N Lv S O B : Nat → Nat}
theorem re_w_0 (A : re_A cs n h L K P N Lv S O B) {m o : Nat} (hm : m < n) (ho : o < N m) : 0 < m ∧ re_w K N S n m (P m) o (N m - 1 - o) := by
  obtain ⟨Ok, H, hb, hcs, hL, hL16, Nn, Sn, V, D, Vr⟩ := A
  have h0 : 0 < m := by
    rcases Nat.eq_zero_or_pos m with z | z
    · have := (Nn m hm).1 z; omega
    · exact z
  have hp := (Ok m h0 hm).1
  have e1 := (Nn m hm).2 h0
  have e2 := (Sn m hm).2 h0
  refine ⟨h0, by omega, hp, ?_, fun l hl => ?_, fun k => ?_⟩
  · by_cases k : K (P m) = 2
    · rw [if_pos k] at e1 ⊢; omega
    · rw [if_neg k] at e1 ⊢; omega
  · have e := e2 l
    have e' : (S m).testBit l = ((S (P m)).testBit l || (decide (K (P m) = 2) && decide (l = tr_lc K (P m)))) := e
    rw [e', hl, Bool.true_or]
  · have e := e2 (tr_lc K (P m))
    have e' : (S m).testBit (tr_lc K (P m)) = ((S (P m)).testBit (tr_lc K (P m)) || (decide (K (P m) = 2) && decide (tr_lc K (P m) = tr_lc K (P m)))) := e
    rw [e', decide_eq_true k, decide_eq_true rfl, Bool.and_true, Bool.or_true]
/-- the LAM sought -/
theorem re_w_hit (A : re_A cs n h L K P N Lv S O B) {m a t : Nat} (w : re_w K N S n m a 0 t) (k : K a = 2) : N a = t ∧ (S m).testBit (tr_lc K a) = true := by
  obtain ⟨w1, w2, w3, w4, w5⟩ := w
  rw [if_pos k] at w3
  exact ⟨by omega, w5 k⟩
/-- one step up -/
theorem re_w_s (A : re_A cs n h L K P N Lv S O B) {m a x y t : Nat} (w : re_w K N S n m a x t) (k : (K a = 2 ∧ x = y + 1) ∨ (K a ≠ 2 ∧ x = y)) : 0 < a ∧ re_w K N S n m (P a) y t := by
  obtain ⟨w1, w2, w3, w4, w5⟩ := w
  have e : t + y + 1 = N a := by
    rcases k with ⟨k, z⟩ | ⟨k, z⟩
    · rw [if_pos k] at w3; omega
    · rw [if_neg k] at w3; omega
  obtain ⟨g1, g2⟩ := re_w_0 A (m := a) (o := y) w1 (by omega)
  obtain ⟨g3, g4, g5, g6, g7⟩ := g2
  exact ⟨g1, g3, by omega, by omega, fun l hl => w4 l (g6 l hl), fun k => w4 _ (g7 k)⟩
/-- the binder of a VAR -/
theorem re_bind (A : re_A cs n h L K P N Lv S O B) {m a : Nat} (hm : m < n) (km : K m = 0) (ka : K a = 2) (e : N a = N m - 1 - O m) (hs : (S m).testBit (tr_lc K a) = true) : tr_lc K a = B m ∧ a < m := by
  obtain ⟨Ok, H, hb, hcs, hL, hL16, Nn, Sn, V, D, Vr⟩ := A
  obtain ⟨a1, b, b1, b2, b3, b4, b5⟩ := Vr m hm km
  have := tr_sc_uniq Ok Nn Sn hm ka b2 hs b3 (by omega)
  subst this
  exact ⟨b4.symm, b1⟩
/-- whether the LAM z lies above a -/
theorem re_anc (A : re_A cs n h L K P N Lv S O B) {a z : Nat} (ha : a < n) (kz : K z = 2) : (S a).testBit (tr_lc K z) = true ↔ 0 < a ∧ (P a = z ∨ (S (P a)).testBit (tr_lc K z) = true) := by
  obtain ⟨Ok, H, hb, hcs, hL, hL16, Nn, Sn, V, D, Vr⟩ := A
  constructor
  · intro hz
    obtain ⟨g1, g2⟩ := tr_sc_up Sn ha hz
    refine ⟨g1, ?_⟩
    rcases g2 with g2 | ⟨g2, g3⟩
    · exact Or.inr g2
    · exact Or.inl (tr_lc_inj g2 kz g3.symm)
  · rintro ⟨g1, g2⟩
    have e' : (S a).testBit (tr_lc K z) = ((S (P a)).testBit (tr_lc K z) || (decide (K (P a) = 2) && decide (tr_lc K z = tr_lc K (P a)))) := (Sn a ha).2 g1 (tr_lc K z)
    rw [e']
    rcases g2 with g2 | g2
    · subst g2
      rw [decide_eq_true kz, decide_eq_true rfl, Bool.and_true, Bool.or_true]
    · rw [g2, Bool.true_or]
theorem re_anc_lt (A : re_A cs n h L K P N Lv S O B) {a z : Nat} (ha : a < n) (kz : K z = 2) (hz : (S a).testBit (tr_lc K z) = true) : z < a := by
  obtain ⟨Ok, H, hb, hcs, hL, hL16, Nn, Sn, V, D, Vr⟩ := A
  exact (tr_sc_nest Ok Nn Sn ha kz hz).1
/-- of a VAR under z: its binder lies outside of z iff z's scope holds its lambda -/
theorem re_cap (A : re_A cs n h L K P N Lv S O B) {m z b : Nat} (hm : m < n) (kz : K z = 2) (kb : K b = 2) (hz : (S m).testBit (tr_lc K z) = true) (hb' : (S m).testBit (tr_lc K b) = true) : b < z ↔ (S z).testBit (tr_lc K b) = true := by
  have lt := re_anc_lt A hm kz hz
  obtain ⟨Ok, H, hb, hcs, hL, hL16, Nn, Sn, V, D, Vr⟩ := A
  constructor
  · intro g
    exact tr_sc_in (sc := fun m l => (S m).testBit l) Ok Nn Sn hm kb kz hb' hz g
  · intro g
    exact (tr_sc_nest Ok Nn Sn (show z < n by omega) kb g).1
end
/-! ===== the called masks of one engine ===== -/
def re_cs (E : Nat) (old c : Nat → Int32) : Nat → Int32 := fun j => if E * 48 ≤ j ∧ j < E * 48 + 48 then c (j - E * 48) else old j
theorem re_cs_at (E : Nat) (old c : Nat → Int32) {m : Nat} (h : m < 48) : re_cs E old c (E * 48 + m) = c m := by
  unfold re_cs
  rw [if_pos ⟨by omega, by omega⟩]
  congr 1
  omega
theorem re_cs_put (E : Nat) (old c : Nat → Int32) {m : Nat} (h : m < 48) (v : Int32) : upd (re_cs E old c) (E * 48 + m) v = re_cs E old (fun j => if j = m then v else c j) := by
  funext j
  unfold upd re_cs
  by_cases z : j = E * 48 + m
  · rw [if_pos z, if_pos ⟨by omega, by omega⟩]
    exact (if_pos (by omega)).symm
  · rw [if_neg z]
    by_cases y : E * 48 ≤ j ∧ j < E * 48 + 48
    · rw [if_pos y, if_pos y]
      exact (if_neg (by omega)).symm
    · rw [if_neg y, if_neg y]
