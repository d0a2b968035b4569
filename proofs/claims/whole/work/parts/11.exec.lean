/-! ===== the machine over code does what the evaluator does ===== -/
def cm_G (K e lc bd oc nd tg en : Nat → Nat) (L n cn : Nat) (t : so_S) : Prop :=
  (∀ p, p < n → K p = 2 → t.1 (p + 1) = 1 → ∃ d z, la_c K e t.1 (cm_sk e t) oc nd tg d (p + 1) (en (lc p)) z ∧ z < cn ∧ oc z = 9) ∧
  (∀ x, x < cn → oc x = 6 → ∀ l, l < L → t.2.1 (nd x + 1) = 2 ^ l → tg x = en l)
def cm_M (K e Lv oc nd tg : Nat → Nat) (cn : Nat) (t : so_S) (C : Nat → Nat → am_S → Prop) (J : Nat × Nat → ev_S → Prop) (env : Nat → ev_V) (m : Nat) (s : ev_S) (r : ev_R) (s' : ev_S) : Prop :=
  ∀ d a z f F R w W, la_c K e t.1 (cm_sk e t) oc nd tg d m a z → z ≤ cn → f ≤ s.1 → w ≤ 6 * f + Lv m → F f = env →
    (∀ v, r = .inl v → ∀ b, C b z (s', f, F, R, w + 1, am_pw W w v) → C (b + am_c e m s s') a (s, f, F, R, w, W)) ∧
    (∀ x, r = .inr x → J x s' → C (2 + am_c e m s s') a (s, f, F, R, w, W))
theorem cm_mod {a l : Nat} (h : a % 65536 = 0) (hl : l < 16) : a.testBit l = false := by
  have h1 : (a % 2 ^ 16).testBit l = (decide (l < 16) && a.testBit l) := Nat.testBit_mod_two_pow a 16 l
  have h2 : a % 2 ^ 16 = 0 := h
  rw [h2, Nat.zero_testBit, decide_eq_true hl, Bool.true_and] at h1
  exact h1.symm
section
variable {K e N Lv ix bl lc bd en oc nd tg : Nat → Nat} {sc : Nat → Nat → Bool} {op bm : Nat → Int32} {cl cm n L cn : Nat} {t : so_S} {C : Nat → Nat → am_S → Prop} {J : Nat × Nat → ev_S → Prop}
theorem cm_up (Ru : cm_R K e N Lv ix en op bm lc oc nd tg cl cm n cn C J) {b d c : Nat} {a : am_S} (h : C b c a) (hd : b ≤ d) : C d c a := by
  have := Ru.1 b (d - b) c a h
  rwa [Nat.add_sub_cancel' hd] at this
theorem cm_run (T : ev_T K e N ix n) (TL : tr_L K e Lv n) (hcl : cl ≤ 48) (hL : L ≤ 16) (B : so_B K e N ix bl lc bd sc n L) (Cl : so_Cl K e bl lc bd L n t) (G : cm_G K e lc bd oc nd tg en L n cn t) (Ru : cm_R K e N Lv ix en op bm lc oc nd tg cl cm n cn C J) :
    ∀ f env m s, ev_Pre K e N n cl cm f env m s → so_SP K N lc sc n t m env s → cm_M K e Lv oc nd tg cn t C J env m s (ev_al K e N ix op bm cl cm f env m s).1 (ev_al K e N ix op bm cl cm f env m s).2 := by
  intro f env m s P0 S0
  have up := fun {b d c : Nat} {a : am_S} (h : C b c a) (hd : b ≤ d) => cm_up Ru h hd
  obtain ⟨_, rvar, rnum, rlamF, rlam, rifS, rif, rjmp, rsum, rsumS, rappS, rstk, rappC, rapp, rret⟩ := Ru
  have T1 := T.1
  have T4 := T.2.2.2.1
  have nl : ∀ {P : Prop} {v : ev_V} {x : Nat × Nat}, (Sum.inl v : ev_R) = .inr x → P := fun e => nomatch e
  have nr : ∀ {P : Prop} {v : ev_V} {x : Nat × Nat}, (Sum.inr x : ev_R) = .inl v → P := fun e => nomatch e
  have un : ∀ {d m a z}, la_c K e t.1 (cm_sk e t) oc nd tg d m a z → ∃ d', d = d' + 1 := fun {d m a z} h => by
    cases d with
    | zero => exact h.elim
    | succ d => exact ⟨d, rfl⟩
  refine (ev_ind3 K e N ix bl lc bd sc op bm cl cm n L t T B Cl (fun _ env m s r s' => cm_M K e Lv oc nd tg cn t C J env m s r s') ?_ ?_ ?_ ?_ ?_ ?_ ?_ ?_ ?_ ?_ ?_ ?_ ?_ f env m s P0 S0).1
  · intro f env m s P S k qq d a z fr F R w W hla hz0 h1 h2 h3
    obtain ⟨d, rfl⟩ := un hla
    obtain ⟨o1, o2, o3⟩ := hla.1 k
    have hs := P.2.2.1.1
    have hl := (TL m P.1).1
    have hz := tr_k0 T1 P.1 (by omega)
    refine ⟨fun v hv b hb => ?_, fun x h => nl h⟩
    cases hv
    rw [← h3, o3] at hb
    exact up (rvar b a m s fr F R w W (by omega) o1 o2 P.1 k (by omega) (by omega) hb) (by unfold am_c; omega)
  · intro f env m s P S k qq d a z fr F R w W hla hz0 h1 h2 h3
    obtain ⟨d, rfl⟩ := un hla
    obtain ⟨o1, o2, o3⟩ := hla.2.1 k
    have hs := P.2.2.1.1
    have hl := (TL m P.1).1
    have hz := tr_k0 T1 P.1 (by omega)
    refine ⟨fun v hv b hb => ?_, fun x h => nl h⟩
    cases hv
    rw [o3] at hb
    exact up (rnum b a m s fr F R w W (by omega) o1 o2 P.1 k (by omega) (by omega) hb) (by unfold am_c; omega)
  · intro f env m s P S k hc qq d a z fr F R w W hla hz0 h1 h2 h3
    obtain ⟨d, rfl⟩ := un hla
    obtain ⟨o1, o2, o3⟩ := hla.2.2.1 k
    have hs := P.2.2.1.1
    have hl := (TL m P.1).1
    refine ⟨fun v h => nr h, fun x hx hJ => ?_⟩
    cases hx
    exact up (rlamF 0 a m s fr F R w W (by omega) o1 o2 P.1 k (by omega) (by omega) hc hJ) (by omega)
  · intro f env m s P S k hc qq d a z fr F R w W hla hz0 h1 h2 h3
    obtain ⟨d, rfl⟩ := un hla
    obtain ⟨o1, o2, o3⟩ := hla.2.2.1 k
    have hs := P.2.2.1.1
    have hl := (TL m P.1).1
    have hz := (T1 m P.1).1
    refine ⟨fun v hv b hb => ?_, fun x h => nl h⟩
    cases hv
    rw [← h3, o3] at hb
    exact up (rlam b a m s fr F R w W (by omega) o1 o2 P.1 k (by omega) (by omega) P.2.2.1 hc hb) (by unfold am_c; omega)
  -- an end in the first child
  · intro f env m s x s1 P S k A1 S1 G1 q1 qq H1 d a z fr F R w W hla hz0 h1 h2 h3
    obtain ⟨d, rfl⟩ := un hla
    have hL1 := ((TL m P.1).2.2 k).1
    have h6 := T4 m P.1
    refine ⟨fun v h => nr h, fun y hy hJ => ?_⟩
    by_cases k6 : K m = 6
    · have hz := tr_k6 T1 P.1 k6
      by_cases q : t.1 (e (m + 1)) = 1
      · obtain ⟨y1, x1, a1, _, _, a4, _, _, _, a8, _⟩ := hla.2.2.2.2.1 k6 q
        have l1 := la_lt _ _ _ _ a4
        have l2 := la_lt _ _ _ _ a8
        exact up ((H1 d a y1 fr F R w W a1 (by omega) h1 (by omega) h3).2 y hy hJ) (by unfold am_c; omega)
      · obtain ⟨y1, a1, _, _, a4⟩ := hla.2.2.2.2.2 k6 q
        exact up ((H1 d a y1 fr F R w W a1 (by omega) h1 (by omega) h3).2 y hy hJ) (by unfold am_c; omega)
    · have hz := tr_k3 T1 P.1 k k6
      obtain ⟨y1, x1, a1, a2, _, _, a5⟩ := hla.2.2.2.1 k k6
      have l1 := la_lt _ _ _ _ a2
      exact up ((H1 d a y1 fr F R w W a1 (by omega) h1 (by omega) h3).2 y hy hJ) (by unfold am_c; omega)
  -- IF0 on a closure
  · intro f env m s j s1 P S k6 A1 S1 G1 q1 qq H1 d a z fr F R w W hla hz0 h1 h2 h3
    obtain ⟨d, rfl⟩ := un hla
    have hs := P.2.2.1.1
    have hl := (TL m P.1).1
    have hL1 := ((TL m P.1).2.2 (by omega)).1
    have hz := tr_k6 T1 P.1 k6
    refine ⟨fun v h => nr h, fun y hy hJ => ?_⟩
    cases hy
    by_cases q : t.1 (e (m + 1)) = 1
    · obtain ⟨y1, x1, a1, o1, o2, a4, _, _, _, a8, _⟩ := hla.2.2.2.2.1 k6 q
      have l1 := la_lt _ _ _ _ a4
      have l2 := la_lt _ _ _ _ a8
      have b1 := rifS 0 y1 m s1 fr F R w W j (by omega) o1 o2 P.1 k6 (by omega) G1.1 (G1.2.2.1 _ rfl j rfl) hJ
      exact up ((H1 d a y1 fr F R w W a1 (by omega) h1 (by omega) h3).1 _ rfl _ b1) (by unfold am_c; omega)
    · obtain ⟨y1, a1, o1, o2, a4⟩ := hla.2.2.2.2.2 k6 q
      have b1 := rstk 0 y1 m s1 (s1, fr, F, R, w + 1, am_pw W w (.inr j)) (by omega) o1 o2 P.1 rfl hJ
      exact up ((H1 d a y1 fr F R w W a1 (by omega) h1 (by omega) h3).1 _ rfl _ b1) (by unfold am_c; omega)
  -- IF0 on a number
  · intro f env m s i s1 r s2 P S k6 A1 S1 G1 q1 A2 S2 G2 q2 qq H1 H2 d a z fr F R w W hla hz0 h1 h2 h3
    obtain ⟨d, rfl⟩ := un hla
    have hs := P.2.2.1.1
    have hl := (TL m P.1).1
    have hLL := (TL m P.1).2.2 (by omega)
    have hz := tr_k6 T1 P.1 k6
    have hc1 := G1.2.1.1
    have hc2 := G2.2.1.1
    have q := ((Cl m P.1 S.2.2).2.2.2.2.2.2.1 k6 ((q1.2 _ rfl).1 i rfl)).1
    obtain ⟨y1, x1, a1, o1, o2, a4, o3, o4, o5, a8, o6⟩ := hla.2.2.2.2.1 k6 q
    have l1 := la_lt _ _ _ _ a4
    have l2 := la_lt _ _ _ _ a8
    have I1 := (H1 d a y1 fr F R w W a1 (by omega) h1 (by omega) h3).1 _ rfl
    by_cases zi : i = 0
    · rw [if_pos zi] at H2
      have I2 := H2 d (y1 + 1) x1 fr F R w W a4 (by omega) (by omega) (by omega) h3
      refine ⟨fun v hv b hb => ?_, fun y hy hJ => ?_⟩
      · rw [← o6] at hb
        have b1 := I2.1 v hv _ (rjmp b x1 _ (by omega) o3 hb)
        have b2 := rif _ y1 m s1 fr F R w W i (by omega) o1 o2 P.1 k6 (by omega) (by rw [if_pos zi]; exact b1)
        exact up (I1 _ b2) (by unfold am_c; omega)
      · have b1 := I2.2 y hy hJ
        have b2 := rif _ y1 m s1 fr F R w W i (by omega) o1 o2 P.1 k6 (by omega) (by rw [if_pos zi]; exact b1)
        exact up (I1 _ b2) (by unfold am_c; omega)
    · rw [if_neg zi] at H2
      have hL6 := hLL.2.2 k6
      have I2 := H2 d (x1 + 1) z fr F R w W a8 hz0 (by omega) (by omega) h3
      refine ⟨fun v hv b hb => ?_, fun y hy hJ => ?_⟩
      · have b1 := I2.1 v hv b hb
        have b2 := rif _ y1 m s1 fr F R w W i (by omega) o1 o2 P.1 k6 (by omega) (by rw [if_neg zi, o5]; exact b1)
        exact up (I1 _ b2) (by unfold am_c; omega)
      · have b1 := I2.2 y hy hJ
        have b2 := rif _ y1 m s1 fr F R w W i (by omega) o1 o2 P.1 k6 (by omega) (by rw [if_neg zi, o5]; exact b1)
        exact up (I1 _ b2) (by unfold am_c; omega)
  -- an end in the second child
  · intro f env m s v s1 x s2 P S k k6 A1 S1 G1 q1 A2 S2 G2 q2 qq H1 H2 d a z fr F R w W hla hz0 h1 h2 h3
    obtain ⟨d, rfl⟩ := un hla
    have hs := P.2.2.1.1
    have hl := (TL m P.1).1
    have hLL := (TL m P.1).2.2 k
    have hz := tr_k3 T1 P.1 k k6
    have hc1 := G1.2.1.1
    have hc2 := G2.2.1.1
    obtain ⟨y1, x1, a1, a2, _, _, a5⟩ := hla.2.2.2.1 k k6
    have l1 := la_lt _ _ _ _ a2
    refine ⟨fun v h => nr h, fun y hy hJ => ?_⟩
    have b1 := (H2 d y1 x1 fr F R (w + 1) (am_pw W w v) a2 (by omega) (by omega) (by omega) h3).2 y hy hJ
    exact up ((H1 d a y1 fr F R w W a1 (by omega) h1 (by omega) h3).1 _ rfl _ b1) (by unfold am_c; omega)
  -- APP on a number
  · intro f env m s i s1 x s2 P S k A1 S1 G1 q1 A2 S2 G2 q2 qq H1 H2 d a z fr F R w W hla hz0 h1 h2 h3
    obtain ⟨d, rfl⟩ := un hla
    have hs := P.2.2.1.1
    have hl := (TL m P.1).1
    have hLL := (TL m P.1).2.2 (by omega)
    have hz := tr_k3 T1 P.1 (by omega) (by omega)
    have hl1 := (TL (m + 1) hz.1).1
    have hc1 := G1.2.1.1
    have hc2 := G2.2.1.1
    obtain ⟨y1, x1, a1, a2, o1, o2, a5⟩ := hla.2.2.2.1 (by omega) (by omega)
    have l1 := la_lt _ _ _ _ a2
    rw [if_pos k] at o1
    refine ⟨fun v h => nr h, fun y hy hJ => ?_⟩
    cases hy
    have b0 : C (0 + 2) x1 (s2, fr, F, R, w + 2, am_pw (am_pw W w (.inl i)) (w + 1) x) := by
      have hb := (q1.2 _ rfl).1 i rfl
      unfold cm_sk at o1
      by_cases z1 : t.1 m = 0 ∨ t.2.1 (m + 1) % 65536 = 0 ∨ t.2.1 (e (m + 1)) = 0
      · rw [if_pos z1] at o1
        exact rstk 0 x1 m s2 _ (by omega) o1 o2 P.1 rfl hJ
      · rw [if_neg z1] at o1
        by_cases z2 : t.2.1 (m + 1) &&& (t.2.1 (m + 1) - 1) = 0
        · exfalso
          have := cm_one _ z2 16 hb
          exact z1 (Or.inr (Or.inl (by rw [this])))
        · rw [if_neg z2] at o1
          exact rappS 0 x1 m s2 fr F R w W i x (by omega) o1 o2 P.1 k (by omega) hJ
    have b1 := (H2 d y1 x1 fr F R (w + 1) (am_pw W w (.inl i)) a2 (by omega) (by omega) (by omega) h3).1 _ rfl _ b0
    exact up ((H1 d a y1 fr F R w W a1 (by omega) h1 (by omega) h3).1 _ rfl _ b1) (by unfold am_c; omega)
  -- APP at the call limit
  · intro f env m s j s1 x s2 P S k hc A1 S1 G1 q1 A2 S2 G2 q2 qq H1 H2 d a z fr F R w W hla hz0 h1 h2 h3
    obtain ⟨d, rfl⟩ := un hla
    have hs := P.2.2.1.1
    have hl := (TL m P.1).1
    have hLL := (TL m P.1).2.2 (by omega)
    have hz := tr_k3 T1 P.1 (by omega) (by omega)
    have hl1 := (TL (m + 1) hz.1).1
    have hc1 := G1.2.1.1
    have hc2 := G2.2.1.1
    obtain ⟨y1, x1, a1, a2, o1, o2, a5⟩ := hla.2.2.2.1 (by omega) (by omega)
    have l1 := la_lt _ _ _ _ a2
    rw [if_pos k] at o1
    obtain ⟨u1, u2, u3, u4, u5, u6, u7, u8⟩ := so_at_app B Cl P S k G1 q1 G2 q2
    have hne := so_in_ne (q2.2 _ rfl)
    have hop : oc x1 = 6 ∨ oc x1 = 7 := by
      unfold cm_sk at o1
      rw [if_neg (by
        rintro (z1 | z1 | z1)
        · have := S.2.2; omega
        · rw [cm_mod z1 (show lc (s2.2.2.1 j) < 16 by omega)] at u5; cases u5
        · exact hne z1)] at o1
      by_cases z2 : t.2.1 (m + 1) &&& (t.2.1 (m + 1) - 1) = 0
      · rw [if_pos z2] at o1; exact Or.inl o1
      · rw [if_neg z2] at o1; exact Or.inr o1
    refine ⟨fun v h => nr h, fun y hy hJ => ?_⟩
    cases hy
    have b0 := rappC 0 x1 m s2 fr F R w W j x (by omega) hop o2 P.1 k (by omega) G2.1 u1 hc hJ
    have b1 := (H2 d y1 x1 fr F R (w + 1) (am_pw W w (.inr j)) a2 (by omega) (by omega) (by omega) h3).1 _ rfl _ b0
    exact up ((H1 d a y1 fr F R w W a1 (by omega) h1 (by omega) h3).1 _ rfl _ b1) (by unfold am_c; omega)
  -- APP
  · intro f env m s j s1 x s2 r s3 P S k hc A1 S1 G1 q1 A2 S2 G2 q2 A3 S3 G3 q3 qq H1 H2 H3 d a z fr F R w W hla hz0 h1 h2 h3
    obtain ⟨d, rfl⟩ := un hla
    have hs := P.2.2.1.1
    have hl := (TL m P.1).1
    have hLL := (TL m P.1).2.2 (by omega)
    have hz := tr_k3 T1 P.1 (by omega) (by omega)
    have hl1 := (TL (m + 1) hz.1).1
    have hc1 := G1.2.1.1
    have hc2 := G2.2.1.1
    have hw2 := G2.1.1
    have hc3 : s2.1 + 1 ≤ s3.1 := G3.2.1.1
    obtain ⟨y1, x1, a1, a2, o1, o2, a5⟩ := hla.2.2.2.1 (by omega) (by omega)
    have l1 := la_lt _ _ _ _ a2
    rw [if_pos k] at o1
    obtain ⟨u1, u2, u3, u4, u5, u6, u7, u8⟩ := so_at_app B Cl P S k G1 q1 G2 q2
    have hne := so_in_ne (q2.2 _ rfl)
    have hb := tr_k2 T1 u2 u3
    have hLb := (TL _ u2).2.1 u3
    have h48 := T.2.2.1
    have hop : oc x1 = 6 ∧ tg x1 = en (lc (s2.2.2.1 j)) ∨ oc x1 = 7 := by
      unfold cm_sk at o1
      rw [if_neg (by
        rintro (z1 | z1 | z1)
        · have := S.2.2; omega
        · rw [cm_mod z1 (show lc (s2.2.2.1 j) < 16 by omega)] at u5; cases u5
        · exact hne z1)] at o1
      by_cases z2 : t.2.1 (m + 1) &&& (t.2.1 (m + 1) - 1) = 0
      · rw [if_pos z2] at o1
        exact Or.inl ⟨o1, G.2 x1 (by omega) o1 _ u4 (by rw [o2]; exact cm_one _ z2 _ u5)⟩
      · rw [if_neg z2] at o1; exact Or.inr o1
    obtain ⟨d3, z3, la3, z3c, o9⟩ := G.1 _ u2 u3 u6
    have hNe : N (nd (en (lc (s2.2.2.1 j)))) = N (s2.2.2.1 j) + 1 := by
      have xx := (la_N T1 T.2.1 cm_sk_in T4 d3 _ _ _ hb.1 la3 _ (Nat.le_refl _) (la_lt _ _ _ _ la3)).2.1
      rw [xx]
      exact (T.2.1 _ u2).1 u3
    have hcost : am_c e (s2.2.2.1 j + 1) (ev_call bm m j s2) s3 + am_c e (e (m + 1)) s1 s2 + am_c e (m + 1) s s1 + 4 ≤ am_c e m s s3 := by
      show 3 * (e (s2.2.2.1 j + 1) - (s2.2.2.1 j + 1)) + 145 * (s3.1 - (s2.1 + 1)) + (3 * (e (e (m + 1)) - e (m + 1)) + 145 * (s2.1 - s1.1)) + (3 * (e (m + 1) - (m + 1)) + 145 * (s1.1 - s.1)) + 4 ≤ 3 * (e m - m) + 145 * (s3.1 - s.1)
      omega
    have I3 := H3 d3 _ z3 (fr + 1) (am_pf F (fr + 1) (ev_env N j x s2)) (tr_put R (fr + 1) (x1 + 1)) w W la3 (by omega) (show fr + 1 ≤ s2.1 + 1 by omega) (by omega) (am_pf_s _ _ _)
    have I2 := (H2 d y1 x1 fr F R (w + 1) (am_pw W w (.inr j)) a2 (by omega) (by omega) (by omega) h3).1 _ rfl
    have I1 := (H1 d a y1 fr F R w W a1 (by omega) h1 (by omega) h3).1 _ rfl
    refine ⟨fun v hv b hb => ?_, fun y hy hJ => ?_⟩
    · rw [a5] at hb
      have c0 := rret b z3 (x1 + 1) s3 fr F R (w + 1) (am_pw W w v) (ev_env N j x s2) z3c o9 (by omega) hb
      have c1 := I3.1 v hv _ c0
      have c2 := rapp _ x1 m s2 fr F R w W j x (by omega) hop o2 P.1 k (by omega) (by omega) G2.1 u1 (G2.2.2.1 _ rfl) hc hNe c1
      exact up (I1 _ (I2 _ c2)) (by omega)
    · have c1 := I3.2 y hy hJ
      have c2 := rapp _ x1 m s2 fr F R w W j x (by omega) hop o2 P.1 k (by omega) (by omega) G2.1 u1 (G2.2.2.1 _ rfl) hc hNe c1
      exact up (I1 _ (I2 _ c2)) (by omega)
  -- ADD, SUB
  · intro f env m s i s1 j s2 P S k A1 S1 G1 q1 A2 S2 G2 q2 qq H1 H2 d a z fr F R w W hla hz0 h1 h2 h3
    obtain ⟨d, rfl⟩ := un hla
    have hs := P.2.2.1.1
    have hl := (TL m P.1).1
    have hLL := (TL m P.1).2.2 (by omega)
    have hz := tr_k3 T1 P.1 (by omega) (by omega)
    have hl1 := (TL (m + 1) hz.1).1
    have hc1 := G1.2.1.1
    have hc2 := G2.2.1.1
    obtain ⟨y1, x1, a1, a2, o1, o2, a5⟩ := hla.2.2.2.1 (by omega) (by omega)
    have l1 := la_lt _ _ _ _ a2
    rw [if_neg (show ¬ K m = 3 by omega)] at o1
    refine ⟨fun v hv b hb => ?_, fun x h => nl h⟩
    cases hv
    rw [a5] at hb
    have b0 := rsum b x1 m s2 fr F R w W i j (by omega) o1 o2 P.1 k (by omega) hb
    have b1 := (H2 d y1 x1 fr F R (w + 1) (am_pw W w (.inl i)) a2 (by omega) (by omega) (by omega) h3).1 _ rfl _ b0
    exact up ((H1 d a y1 fr F R w W a1 (by omega) h1 (by omega) h3).1 _ rfl _ b1) (by unfold am_c; omega)
  · intro f env m s v s1 x s2 P S k hv A1 S1 G1 q1 A2 S2 G2 q2 qq H1 H2 d a z fr F R w W hla hz0 h1 h2 h3
    obtain ⟨d, rfl⟩ := un hla
    have hs := P.2.2.1.1
    have hl := (TL m P.1).1
    have hLL := (TL m P.1).2.2 (by omega)
    have hz := tr_k3 T1 P.1 (by omega) (by omega)
    have hl1 := (TL (m + 1) hz.1).1
    have hc1 := G1.2.1.1
    have hc2 := G2.2.1.1
    obtain ⟨y1, x1, a1, a2, o1, o2, a5⟩ := hla.2.2.2.1 (by omega) (by omega)
    have l1 := la_lt _ _ _ _ a2
    rw [if_neg (show ¬ K m = 3 by omega)] at o1
    refine ⟨fun v h => nr h, fun y hy hJ => ?_⟩
    cases hy
    have b0 := rsumS 0 x1 m s2 fr F R w W v x (by omega) o1 o2 P.1 k (by omega) G2.1 (ev_ok_up (G1.2.2.1 _ rfl) G2.2.1.2.1) (G2.2.2.1 _ rfl) hv hJ
    have b1 := (H2 d y1 x1 fr F R (w + 1) (am_pw W w v) a2 (by omega) (by omega) (by omega) h3).1 _ rfl _ b0
    exact up ((H1 d a y1 fr F R w W a1 (by omega) h1 (by omega) h3).1 _ rfl _ b1) (by unfold am_c; omega)
end
