/-! ===== from parents to children: what a complete tree gives ===== -/
theorem tr_par1 {K P : Nat → Nat} {n p : Nat} (O : tr_Ok K P n) (F : tr_Full K P n) (hp : p < n) (h : 2 ≤ K p) : p + 1 < n ∧ P (p + 1) = p := by
  have ha : 0 < tr_ar (K p) := by
    by_cases k : K p = 2
    · rw [tr_ar_1 k]; omega
    · by_cases k6 : K p = 6
      · rw [tr_ar_3 k6]; omega
      · rw [tr_ar_2 (by omega) k6]; omega
  obtain ⟨a, b, _⟩ := tr_first O F hp ha
  exact ⟨a, b⟩
theorem tr_par2 {K P : Nat → Nat} {n p : Nat} (O : tr_Ok K P n) (F : tr_Full K P n) (hp : p < n) (h : 3 ≤ K p) : p + 1 < tr_e P n (p + 1) ∧ tr_e P n (p + 1) < n ∧ P (tr_e P n (p + 1)) = p := by
  have ha : 2 ≤ tr_ar (K p) := by
    by_cases k6 : K p = 6
    · rw [tr_ar_3 k6]; omega
    · rw [tr_ar_2 h k6]; omega
  obtain ⟨a, b, _⟩ := tr_kid1 O F hp ha
  exact ⟨(tr_e_spec (P := P) (n := n) (tr_par1 O F hp (by omega)).1).1, a, b⟩
theorem tr_par3 {K P : Nat → Nat} {n p : Nat} (O : tr_Ok K P n) (F : tr_Full K P n) (hp : p < n) (h : K p = 6) : p + 1 < tr_e P n (tr_e P n (p + 1)) ∧ tr_e P n (tr_e P n (p + 1)) < n ∧ P (tr_e P n (tr_e P n (p + 1))) = p := by
  obtain ⟨a, b, _⟩ := tr_kid2 O F hp (by rw [tr_ar_3 h]; omega)
  obtain ⟨c, d, _⟩ := tr_par2 O F hp (by omega)
  have := (tr_e_spec (P := P) (n := n) d).1
  exact ⟨by omega, a, b⟩
/-- levels -/
def tr_V (K P Lv : Nat → Nat) (n : Nat) : Prop := ∀ m, m < n → Lv m ≤ 5 ∧ (m = 0 → Lv m = 0) ∧ (0 < m → Lv m = (if K (P m) = 2 then 0 else Lv (P m) + 1))
section
variable {K P N Lv : Nat → Nat} {sc : Nat → Nat → Bool} {n : Nat}
theorem tr_C_of (O : tr_Ok K P n) (F : tr_Full K P n) (Nn : tr_N K P N n) : tr_C K (tr_e P n) N n := by
  intro p hp
  refine ⟨fun k => ?_, fun k => ⟨?_, ?_, fun k6 => ?_⟩⟩
  · obtain ⟨a, b⟩ := tr_par1 O F hp (by omega)
    rw [(Nn _ a).2 (by omega), b, if_pos k]
  · obtain ⟨a, b⟩ := tr_par1 O F hp (by omega)
    rw [(Nn _ a).2 (by omega), b, if_neg (by omega), Nat.add_zero]
  · obtain ⟨c, a, b⟩ := tr_par2 O F hp k
    rw [(Nn _ a).2 (by omega), b, if_neg (by omega), Nat.add_zero]
  · obtain ⟨c, a, b⟩ := tr_par3 O F hp k6
    rw [(Nn _ a).2 (by omega), b, if_neg (by omega), Nat.add_zero]
theorem tr_L_of (O : tr_Ok K P n) (F : tr_Full K P n) (V : tr_V K P Lv n) : tr_L K (tr_e P n) Lv n := by
  intro p hp
  refine ⟨(V p hp).1, fun k => ?_, fun k => ⟨?_, ?_, fun k6 => ?_⟩⟩
  · obtain ⟨a, b⟩ := tr_par1 O F hp (by omega)
    rw [(V _ a).2.2 (by omega), b, if_pos k]
  · obtain ⟨a, b⟩ := tr_par1 O F hp (by omega)
    rw [(V _ a).2.2 (by omega), b, if_neg (by omega)]
  · obtain ⟨c, a, b⟩ := tr_par2 O F hp k
    rw [(V _ a).2.2 (by omega), b, if_neg (by omega)]
  · obtain ⟨c, a, b⟩ := tr_par3 O F hp k6
    rw [(V _ a).2.2 (by omega), b, if_neg (by omega)]
theorem tr_sc_kid (S : tr_S K P sc n) {p c : Nat} (hc : c < n) (h0 : 0 < c) (hp : P c = p) (k : K p ≠ 2) (l : Nat) : sc c l = sc p l := by
  rw [(S c hc).2 h0 l, hp, decide_eq_false k, Bool.false_and, Bool.or_false]
/-- bl: the binder's lambda; ix: its place among the bindings; bd: bodies -/
theorem so_B_of {bl ix bd : Nat → Nat} {L : Nat} (O : tr_Ok K P n) (F : tr_Full K P n) (Nn : tr_N K P N n) (S : tr_S K P sc n) (hL : L = tr_lc K n) (hbd : ∀ m, m < n → K m = 2 → bd (tr_lc K m) = m + 1) (hv : ∀ m, m < n → K m = 0 → ∃ b, b < n ∧ K b = 2 ∧ sc m (tr_lc K b) = true ∧ bl m = tr_lc K b ∧ ix m = N b) : so_B K (tr_e P n) N ix bl (tr_lc K) bd sc n L := by
  refine ⟨fun m hm k l => ⟨?_, ?_, fun k6 => ?_⟩, fun m hm k l h => ?_, fun m hm k => ⟨hbd m hm k, ?_⟩, hv, fun m hm b hb kb h => (tr_sc_nest O Nn S hm kb h).2.1, fun a b _ _ ka kb h => tr_lc_inj ka kb h⟩
  · obtain ⟨a, b⟩ := tr_par1 O F hm (by omega)
    exact tr_sc_kid S a (by omega) b (by omega) l
  · obtain ⟨c, a, b⟩ := tr_par2 O F hm k
    exact tr_sc_kid S a (by omega) b (by omega) l
  · obtain ⟨c, a, b⟩ := tr_par3 O F hm k6
    exact tr_sc_kid S a (by omega) b (by omega) l
  · obtain ⟨a, b⟩ := tr_par1 O F hm (by omega)
    obtain ⟨_, h1⟩ := tr_sc_up S a h
    rw [b] at h1
    exact h1.imp id (fun z => z.2)
  · rw [hL]; exact tr_lc_lt hm k
end
/-! keys of pieces -/
def tr_kyf (K P : Nat → Nat) : Nat → Nat → Nat
  | 0, _ => 0
  | d + 1, m => if m = 0 then 0 else if K (P m) = 2 then tr_lc K (P m) + 1 else tr_kyf K P d (P m)
theorem tr_kyf_s {K P : Nat → Nat} {n : Nat} (O : tr_Ok K P n) : ∀ d m, m < n → m ≤ d → tr_kyf K P (d + 1) m = tr_kyf K P d m := by
  intro d
  induction d with
  | zero =>
    intro m hm h
    have : m = 0 := by omega
    subst this
    exact if_pos rfl
  | succ d ih =>
    intro m hm h
    show (if m = 0 then 0 else if K (P m) = 2 then tr_lc K (P m) + 1 else tr_kyf K P (d + 1) (P m)) = (if m = 0 then 0 else if K (P m) = 2 then tr_lc K (P m) + 1 else tr_kyf K P d (P m))
    by_cases z : m = 0
    · rw [if_pos z, if_pos z]
    · have := (O m (by omega) hm).1
      rw [if_neg z, if_neg z, ih (P m) (by omega) (by omega)]
theorem tr_ky_eq {K P : Nat → Nat} {n m : Nat} (O : tr_Ok K P n) (h48 : n ≤ 48) (hm : m < n) (h0 : 0 < m) : tr_kyf K P 48 m = (if K (P m) = 2 then tr_lc K (P m) + 1 else tr_kyf K P 48 (P m)) := by
  have hp := (O m h0 hm).1
  show (if m = 0 then 0 else if K (P m) = 2 then tr_lc K (P m) + 1 else tr_kyf K P 47 (P m)) = _
  rw [if_neg (by omega), tr_kyf_s O 47 (P m) (by omega) (by omega)]
theorem tr_ky_of {K P : Nat → Nat} {n : Nat} (O : tr_Ok K P n) (F : tr_Full K P n) (h48 : n ≤ 48) : em_ky K (tr_e P n) (tr_kyf K P 48) n ∧ tr_kyf K P 48 0 = 0 ∧ ∀ m, m < n → K m = 2 → tr_kyf K P 48 (m + 1) = tr_lc K m + 1 := by
  refine ⟨fun p hp k => ⟨?_, ?_, fun k6 => ?_⟩, rfl, fun m hm k => ?_⟩
  · obtain ⟨a, b⟩ := tr_par1 O F hp (by omega)
    rw [tr_ky_eq O h48 a (by omega), b, if_neg (by omega)]
  · obtain ⟨c, a, b⟩ := tr_par2 O F hp k
    rw [tr_ky_eq O h48 a (by omega), b, if_neg (by omega)]
  · obtain ⟨c, a, b⟩ := tr_par3 O F hp k6
    rw [tr_ky_eq O h48 a (by omega), b, if_neg (by omega)]
  · obtain ⟨a, b⟩ := tr_par1 O F hm (by omega)
    rw [tr_ky_eq O h48 a (by omega), b, if_pos k]
