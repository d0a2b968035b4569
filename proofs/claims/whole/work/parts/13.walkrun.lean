/-! ===== the restarting walk does what the evaluator does ===== -/
def yw_c (e : Nat → Nat) (m : Nat) (s s' : ev_S) : Nat := 294 * ((e m - m) + 49 * (s'.1 - s.1))
def yw_M (K e N Lv lc : Nat → Nat) (sc : Nat → Nat → Bool) (n : Nat) (Y : Nat → Nat → yw_S → Prop) (JV : yw_S → Prop) (JX : Nat × Nat → yw_S → Prop) (env : Nat → ev_V) (m : Nat) (s : ev_S) (r : ev_R) (s' : ev_S) : Prop :=
  ∀ A T kap D, A ≤ s.1 → yw_Q K N lc sc n s kap T → yw_E K N lc sc n s kap T A m env → yw_F A m (e m) T → yw_G s.1 T → yw_dn T 0 = 0 → D ≤ 6 * A + Lv m →
    (∀ T' b, yw_same A m (e m) s.1 T T' → yw_dn T' (A * 48 + m) = 0 → Y b (A * 48 + m) T' → Y (b + D) 0 T') →
    (∀ v, r = .inl v → ∀ b, (∀ T' kap', yw_Q K N lc sc n s' kap' T' → (∀ k, k < s.2.1 → kap' k = kap k) → yw_same A m (e m) s.1 T T' → yw_G s'.1 T' → yw_dn T' (A * 48 + m) = 1 → yw_v lc s' kap' v (yw_fn T' (A * 48 + m)) (yw_vl T' (A * 48 + m)) → (A * 48 + m = 0 → JV T') ∧ (A * 48 + m ≠ 0 → Y b 0 T')) → Y (b + yw_c e m s s') 0 T) ∧
    (∀ x, r = .inr x → (∀ T', T'.1 = s'.1 → T'.2.1 = s'.2.1 → yw_cs T' = s'.2.2.2.2 → JX x T') → Y (yw_c e m s s') 0 T)
theorem yw_cell {A A' m m' : Nat} (h : m < 48) (h' : m' < 48) (z : A' * 48 + m' = A * 48 + m) : A' = A ∧ m' = m := by omega
section
variable {K e N Lv ix bl lc bd : Nat → Nat} {sc : Nat → Nat → Bool} {op bm : Nat → Int32} {cl cm n L : Nat}
theorem yw_fin_at (q : Nat) (x y : Int32) (T : yw_S) : yw_dn (yw_fin q x y T) q = 1 ∧ yw_fn (yw_fin q x y T) q = x ∧ yw_vl (yw_fin q x y T) q = y := ⟨if_pos rfl, if_pos rfl, if_pos rfl⟩
theorem yw_fin_same {A m hi c : Nat} (h48 : m < 48) (hlt : m < hi) (x y : Int32) (T : yw_S) : yw_same A m hi c T (yw_fin (A * 48 + m) x y T) := by
  refine ⟨fun A' m' a b z => ?_, fun _ _ _ _ => rfl⟩
  have ne : A' * 48 + m' ≠ A * 48 + m := fun w => by
    obtain ⟨w1, w2⟩ := yw_cell h48 b w
    exact z ⟨w1, by omega, by omega⟩
  exact ⟨if_neg ne, if_neg ne, if_neg ne, rfl⟩
theorem yw_fin_G {A m c : Nat} (h48 : m < 48) (hA : A ≤ c) (x y : Int32) {T : yw_S} (G : yw_G c T) : yw_G c (yw_fin (A * 48 + m) x y T) := by
  intro A' m' a b d
  have ne : A' * 48 + m' ≠ A * 48 + m := fun w => by
    obtain ⟨w1, w2⟩ := yw_cell h48 d w
    omega
  exact ⟨(if_neg ne).trans (G A' m' a b d).1, (G A' m' a b d).2⟩
/-- a cell gets its value -/
theorem yw_done (B : so_B K e N ix bl lc bd sc n L) (hL : L ≤ 16) {s2 : ev_S} {kap : Nat → Nat} {T T2 : yw_S} {A m hi c : Nat} (W : ev_W K N n cl cm s2) (Q : yw_Q K N lc sc n s2 kap T2) (G : yw_G s2.1 T2) (hA : A ≤ c) (hc : c ≤ s2.1) (h48 : m < 48) (hlt : m < hi) (d : yw_dn T2 (A * 48 + m) = 0) (S : yw_same A m hi c T T2) (x y : Int32) : yw_Q K N lc sc n s2 kap (yw_fin (A * 48 + m) x y T2) ∧ yw_same A m hi c T (yw_fin (A * 48 + m) x y T2) ∧ yw_G s2.1 (yw_fin (A * 48 + m) x y T2) := by
  have S2 := yw_fin_same (c := s2.1) h48 (Nat.lt_succ_self m) x y T2 (A := A)
  refine ⟨yw_Q_up B hL W Q S2 (fun j a b => ?_) G rfl rfl rfl, yw_same_t S (yw_fin_same (c := c) h48 hlt x y T2) (Nat.le_refl c) (Nat.le_refl _) (Nat.le_refl _) (Nat.le_refl _) (Nat.le_refl _), yw_fin_G h48 (by omega) x y G⟩
  have : j = m := by omega
  rw [this]; exact d
theorem yw_run {Y : Nat → Nat → yw_S → Prop} {JV : yw_S → Prop} {JX : Nat × Nat → yw_S → Prop} (T0 : ev_T K e N ix n) (TL : tr_L K e Lv n) (hcl : cl ≤ 48) (hL : L ≤ 16) (B : so_B K e N ix bl lc bd sc n L) (Ru : yw_R K e bl lc op bm cl cm n Y JV JX) :
    ∀ f env m s, ev_Pre K e N n cl cm f env m s → yw_M K e N Lv lc sc n Y JV JX env m s (ev_al K e N ix op bm cl cm f env m s).1 (ev_al K e N ix op bm cl cm f env m s).2 := by
  intro f env m s P0
  have up : ∀ {b d q : Nat} {T : yw_S}, Y b q T → b ≤ d → Y d q T := fun {b d q T} h hd => by
    have := Ru.1 b (d - b) q T h
    rwa [Nat.add_sub_cancel' hd] at this
  obtain ⟨_, w1, w2, w2i, w3, rvar, rnum, rlamF, rlam, rifS, rif, rsum, rsumS, rappS, rappC, rapp, rappR⟩ := Ru
  have T1 := T0.1
  have h48 := T0.2.2.1
  have T4 := T0.2.2.2.1
  have nl : ∀ {P : Prop} {v : ev_V} {x : Nat × Nat}, (Sum.inl v : ev_R) = .inr x → P := fun e => nomatch e
  have nr : ∀ {P : Prop} {v : ev_V} {x : Nat × Nat}, (Sum.inr x : ev_R) = .inl v → P := fun e => nomatch e
  -- the way to the first child
  have ctx1 : ∀ A m T c D, A ≤ c → c ≤ 48 → m < n → 3 ≤ K m → e (m + 1) ≤ e m → yw_dn T (A * 48 + m) = 0 → (∀ T' b, yw_same A m (e m) c T T' → yw_dn T' (A * 48 + m) = 0 → Y b (A * 48 + m) T' → Y (b + D) 0 T') → ∀ T' b, yw_same A (m + 1) (e (m + 1)) c T T' → yw_dn T' (A * 48 + (m + 1)) = 0 → Y b (A * 48 + (m + 1)) T' → Y (b + (D + 1)) 0 T' := by
    intro A m T c D hA hc hm k he d0 Ctx T' b S d h
    have e1 := (S.1 A m hA (by omega) (fun w => by omega)).1
    have h1 := w1 b A m T' (by omega) hm k d h
    have h2 := Ctx T' (b + 1) (yw_same_t (yw_same_r A m (e m) c T) S (Nat.le_refl c) (Nat.le_refl _) (Nat.le_refl _) (by omega) he) (by rw [e1]; exact d0) h1
    exact up h2 (by omega)
  have keep : ∀ {A lo hi c : Nat} {T T' : yw_S} (m : Nat), yw_same A lo hi c T T' → A ≤ c → m < 48 → (m < lo ∨ hi ≤ m) → yw_dn T' (A * 48 + m) = yw_dn T (A * 48 + m) ∧ yw_fn T' (A * 48 + m) = yw_fn T (A * 48 + m) ∧ yw_vl T' (A * 48 + m) = yw_vl T (A * 48 + m) ∧ yw_et T' (A * 48 + m) = yw_et T (A * 48 + m) := fun m S hA hm h => S.1 _ m hA hm (fun w => by omega)
  -- cell 0 stays open while a cell behind the root is at work
  have zero : ∀ {A lo hi c : Nat} {T T' : yw_S}, yw_same A lo hi c T T' → 0 < lo → yw_dn T 0 = 0 → yw_dn T' 0 = 0 := fun {A lo hi c T T'} S h d => by
    have := (S.1 0 0 (Nat.zero_le _) (by omega) (fun w => by omega)).1
    have this' : yw_dn T' 0 = yw_dn T 0 := this
    rw [this', d]
  -- the way to the second child
  have ctx2 : ∀ A m T T2 c c2 D, A ≤ c → c ≤ c2 → c2 ≤ 48 → m < n → 3 ≤ K m → K m ≠ 6 → yw_dn T (A * 48 + m) = 0 → yw_same A (m + 1) (e (m + 1)) c T T2 → yw_dn T2 (A * 48 + (m + 1)) = 1 → (∀ T' b, yw_same A m (e m) c T T' → yw_dn T' (A * 48 + m) = 0 → Y b (A * 48 + m) T' → Y (b + D) 0 T') → ∀ T' b, yw_same A (e (m + 1)) (e (e (m + 1))) c2 T2 T' → yw_dn T' (A * 48 + e (m + 1)) = 0 → Y b (A * 48 + e (m + 1)) T' → Y (b + (D + 1)) 0 T' := by
    intro A m T T2 c c2 D hA hc hc2 hm k k6 d0 S1 d1 Ctx T' b S d h
    have hz := tr_k3 T1 hm k k6
    have e1 := (keep m S1 hA (by omega) (by omega)).1
    have e2 := (keep m S (by omega) (by omega) (by omega)).1
    have e3 := (keep (m + 1) S (by omega) (by omega) (by omega)).1
    have h1 := w2 b A m T' (by omega) hm k k6 (by rw [e3]; exact d1) d h
    have h2 := Ctx T' (b + 1) (yw_same_t S1 S hc (by omega) (by omega) (by omega) (by omega)) (by rw [e2, e1]; exact d0) h1
    exact up h2 (by omega)
  -- the way to a branch
  have ctxi : ∀ A m T T2 c c2 D (i : Int32), A ≤ c → c ≤ c2 → c2 ≤ 48 → m < n → K m = 6 → yw_dn T (A * 48 + m) = 0 → yw_same A (m + 1) (e (m + 1)) c T T2 → yw_dn T2 (A * 48 + (m + 1)) = 1 → yw_fn T2 (A * 48 + (m + 1)) = -1 → yw_vl T2 (A * 48 + (m + 1)) = i → (∀ T' b, yw_same A m (e m) c T T' → yw_dn T' (A * 48 + m) = 0 → Y b (A * 48 + m) T' → Y (b + D) 0 T') → ∀ T' b, yw_same A (if i = 0 then e (m + 1) else e (e (m + 1))) (e (if i = 0 then e (m + 1) else e (e (m + 1)))) c2 T2 T' → yw_dn T' (A * 48 + (if i = 0 then e (m + 1) else e (e (m + 1)))) = 0 → Y b (A * 48 + (if i = 0 then e (m + 1) else e (e (m + 1)))) T' → Y (b + (D + 1)) 0 T' := by
    intro A m T T2 c c2 D i hA hc hc2 hm k6 d0 S1 d1 f1 v1 Ctx T' b S d h
    have hz := tr_k6 T1 hm k6
    have hb : e (m + 1) ≤ (if i = 0 then e (m + 1) else e (e (m + 1))) ∧ e (if i = 0 then e (m + 1) else e (e (m + 1))) ≤ e m := by
      by_cases z : i = 0
      · rw [if_pos z]; omega
      · rw [if_neg z]; omega
    have e1 := (keep m S1 hA (by omega) (by omega)).1
    have e2 := (keep m S (by omega) (by omega) (by omega)).1
    obtain ⟨e3, e4, e5, _⟩ := keep (m + 1) S (by omega) (by omega) (by omega)
    have h1 := w2i b A m T' i (by omega) hm k6 (by rw [e3]; exact d1) (by rw [e4]; exact f1) (by rw [e5]; exact v1) d h
    have h2 := Ctx T' (b + 1) (yw_same_t S1 S hc (by omega) (by omega) (by omega) (by omega)) (by rw [e2, e1]; exact d0) h1
    exact up h2 (by omega)
  -- bindings for a child
  have envc : ∀ {s s' : ev_S} {kap kap' : Nat → Nat} {T T' : yw_S} {A m c' lo hi : Nat} {env : Nat → ev_V}, yw_E K N lc sc n s kap T A m env → m < n → (∀ l, sc c' l = sc m l) → ev_X s s' → (∀ k, k < s.2.1 → kap' k = kap k) → ev_E N m env s → A ≤ s.1 → yw_same A lo hi s.1 T T' → (∀ j, lo ≤ j → j < hi → yw_dn T (A * 48 + j) = 0) → yw_G s.1 T → yw_E K N lc sc n s' kap' T' A c' env := fun E hm hs X hk o hA S F G => yw_E_up B hL E hm hs X hk o hA S F G
  have sub : ∀ {A lo hi lo' hi' : Nat} {T : yw_S}, yw_F A lo hi T → lo ≤ lo' → hi' ≤ hi → yw_F A lo' hi' T := fun F a b j x y => F j (by omega) (by omega)
  -- untouched cells behind the region stay untouched
  have frs : ∀ {A lo hi c : Nat} {T T' : yw_S} {lo' hi' : Nat}, yw_same A lo hi c T T' → A ≤ c → hi' ≤ 48 → hi ≤ lo' → yw_F A lo' hi' T → yw_F A lo' hi' T' := fun {A lo hi c T T' lo' hi'} S hA h1 h2 F j x y => by
    obtain ⟨a1, _, _, a4⟩ := keep j S hA (by omega) (by omega)
    obtain ⟨b1, b2⟩ := F j x y
    exact ⟨a1.trans b1, a4.trans b2⟩
  have lc16 : ∀ {s : ev_S} {k : Nat}, ev_W K N n cl cm s → k < s.2.1 → s.2.2.1 k < n ∧ K (s.2.2.1 k) = 2 ∧ lc (s.2.2.1 k) < 16 := fun {s k} W hk => by
    obtain ⟨a, b, _⟩ := W.2.2 k hk
    have := (B.2.2.1 _ a b).2
    exact ⟨a, b, by omega⟩
  refine (ev_ind2 K e N ix op bm cl cm n T0 (fun _ env m s r s' => yw_M K e N Lv lc sc n Y JV JX env m s r s') ?_ ?_ ?_ ?_ ?_ ?_ ?_ ?_ ?_ ?_ ?_ ?_ ?_ f env m s P0).1
  -- VAR
  · intro f env m s P k A T kap D hA Q E F G d0 hD Ctx
    have hs := P.2.2.1.1
    have hl := (TL m P.1).1
    have hz := (T1 m P.1).1
    have hm := P.1
    refine ⟨fun v hv b fin => ?_, fun x h => nl h⟩
    cases hv
    obtain ⟨p, p1, p2, p3, p4, p5⟩ := B.2.2.2.1 m P.1 k
    obtain ⟨q1, q2, q3⟩ := E p p1 p2 p3
    have dm := (F m (by omega) hz).1
    obtain ⟨g1, g2, g3⟩ := yw_done B hL P.2.2.1 Q G hA (Nat.le_refl _) (by omega) hz dm (yw_same_r A m (e m) s.1 T) (yw_fn T (yw_bi T (A * 16 + lc p))) (yw_vl T (yw_bi T (A * 16 + lc p)))
    obtain ⟨c1, c2, c3⟩ := yw_fin_at (A * 48 + m) (yw_fn T (yw_bi T (A * 16 + lc p))) (yw_vl T (yw_bi T (A * 16 + lc p))) T
    have hf := fin _ kap g1 (fun _ _ => rfl) g2 g3 c1 (by rw [c2, c3, p5]; exact q3)
    have st := rvar b A m T (yw_bi T (A * 16 + lc p)) (by omega) P.1 k (fun _ => d0) (by rw [p4]) q1 hf
    exact up (Ctx T _ (yw_same_r _ _ _ _ T) dm st) (by unfold yw_c; omega)
  -- NUM
  · intro f env m s P k A T kap D hA Q E F G d0 hD Ctx
    have hs := P.2.2.1.1
    have hl := (TL m P.1).1
    have hz := (T1 m P.1).1
    have hm := P.1
    refine ⟨fun v hv b fin => ?_, fun x h => nl h⟩
    cases hv
    have dm := (F m (by omega) hz).1
    obtain ⟨g1, g2, g3⟩ := yw_done B hL P.2.2.1 Q G hA (Nat.le_refl _) (by omega) hz dm (yw_same_r A m (e m) s.1 T) (-1) (op m)
    obtain ⟨c1, c2, c3⟩ := yw_fin_at (A * 48 + m) (-1) (op m) T
    have hf := fin _ kap g1 (fun _ _ => rfl) g2 g3 c1 (by rw [c2, c3]; exact ⟨fun i z => by cases z; exact ⟨rfl, rfl⟩, fun _ z => nomatch z⟩)
    have st := rnum b A m T (by omega) P.1 k (fun _ => d0) hf
    exact up (Ctx T _ (yw_same_r _ _ _ _ T) dm st) (by unfold yw_c; omega)
  -- LAM at the limit
  · intro f env m s P k hc A T kap D hA Q E F G d0 hD Ctx
    have hs := P.2.2.1.1
    have hl := (TL m P.1).1
    have hz := (T1 m P.1).1
    have dm := (F m (by omega) hz).1
    refine ⟨fun v h => nr h, fun x hx hJ => ?_⟩
    cases hx
    have st := rlamF 0 A m T (by omega) P.1 k (Q.2.1.trans hc) (hJ T Q.1 Q.2.1 Q.2.2.1)
    exact up (Ctx T _ (yw_same_r _ _ _ _ T) dm st) (by unfold yw_c; omega)
  -- LAM
  · intro f env m s P k hc A T kap D hA Q E F G d0 hD Ctx
    have hs := P.2.2.1.1
    have hcm := P.2.2.1.2.1
    have hl := (TL m P.1).1
    have hz := (T1 m P.1).1
    have hm := P.1
    have dm := (F m (by omega) hz).1
    refine ⟨fun v hv b fin => ?_, fun x h => nl h⟩
    cases hv
    have X := ev_clo_X m env s
    have hk : ∀ j, j < s.2.1 → tr_put kap s.2.1 A j = kap j := fun j hj => tr_put_n kap A (by omega)
    have S0 : yw_same A 0 0 s.1 T (yw_inc T) := ⟨fun _ _ _ _ _ => ⟨rfl, rfl, rfl, rfl⟩, fun _ _ _ _ => rfl⟩
    have W' := ev_clo_W P.2.2.1 P.1 k hc P.2.2.2
    have Q' : yw_Q K N lc sc n (ev_clo m env s) (tr_put kap s.2.1 A) (yw_inc T) := by
      refine ⟨Q.1, congrArg (· + 1) Q.2.1, Q.2.2.1, fun j hj => ?_⟩
      have hj' : j < s.2.1 + 1 := hj
      show tr_put kap s.2.1 A j ≤ s.1 ∧ yw_E K N lc sc n (ev_clo m env s) (tr_put kap s.2.1 A) (yw_inc T) (tr_put kap s.2.1 A j) (if j = s.2.1 then m else s.2.2.1 j) (if j = s.2.1 then env else s.2.2.2.1 j)
      by_cases z : j = s.2.1
      · rw [if_pos z, if_pos z, z, tr_put_s]
        exact ⟨hA, yw_E_up B hL E P.1 (fun _ => rfl) X hk P.2.2.2 hA S0 (fun j a b => by omega) G⟩
      · rw [if_neg z, if_neg z, hk j (by omega)]
        obtain ⟨a1, a2⟩ := Q.2.2.2 j (by omega)
        obtain ⟨b1, b2, b3⟩ := P.2.2.1.2.2 j (by omega)
        exact ⟨a1, yw_E_up B hL a2 b1 (fun _ => rfl) X hk b3 a1 S0 (fun j a b => by omega) G⟩
    have S1 : yw_same A m (e m) s.1 T (yw_inc T) := ⟨fun _ _ _ _ _ => ⟨rfl, rfl, rfl, rfl⟩, fun _ _ _ _ => rfl⟩
    obtain ⟨g1, g2, g3⟩ := yw_done B hL W' Q' (show yw_G s.1 (yw_inc T) from G) hA (Nat.le_refl _) (by omega) hz (show yw_dn (yw_inc T) (A * 48 + m) = 0 from dm) S1 (nI (lc m)) (nI A)
    obtain ⟨c1, c2, c3⟩ := yw_fin_at (A * 48 + m) (nI (lc m)) (nI A) (yw_inc T)
    have hf := fin _ _ g1 hk g2 g3 c1 (by
      rw [c2, c3]
      refine ⟨fun _ z => (nomatch z), fun j z => ?_⟩
      cases z
      show nI (lc m) = nI (lc (if s.2.1 = s.2.1 then m else s.2.2.1 s.2.1)) ∧ nI A = nI (tr_put kap s.2.1 A s.2.1)
      rw [if_pos rfl, tr_put_s]
      exact ⟨rfl, rfl⟩)
    have st := rlam b A m T (by omega) P.1 k (fun _ => d0) (by rw [Q.2.1]; omega) hf
    exact up (Ctx T _ (yw_same_r _ _ _ _ T) dm st) (by unfold yw_c; omega)
  -- an end in the first child
  · intro f env m s x s1 P k A1 G1 H A T kap D hA Q E F G d0 hD Ctx
    have hs := P.2.2.1.1
    have hz := (T1 m P.1).1
    have hL1 := ((TL m P.1).2.2 k).1
    have he : e (m + 1) ≤ e m ∧ m + 1 < e (m + 1) := by
      by_cases k6 : K m = 6
      · have := tr_k6 T1 P.1 k6; omega
      · have := tr_k3 T1 P.1 k k6; omega
    have dm := (F m (by omega) hz).1
    have I1 := H A T kap (D + 1) hA Q (envc E P.1 (fun l => (B.1 m P.1 k l).1) (ev_X_r s) (fun _ _ => rfl) P.2.2.2 hA (yw_same_r A 0 0 s.1 T) (fun j a b => by omega) G) (sub F (by omega) (by omega)) G d0 (by omega) (ctx1 A m T s.1 D hA (by omega) P.1 k (by omega) dm Ctx)
    refine ⟨fun v h => nr h, fun y hy hJ => ?_⟩
    exact up (I1.2 y hy hJ) (by unfold yw_c; omega)
  -- IF0 on a closure
  · intro f env m s k s1 P k6 A1 G1 H A T kap D hA Q E F G d0 hD Ctx
    have hs := P.2.2.1.1
    have hl := (TL m P.1).1
    have hz := (T1 m P.1).1
    have hm := P.1
    have hLL := (TL m P.1).2.2 (by omega)
    have he := tr_k6 T1 P.1 k6
    have hc1 := G1.2.1.1
    have dm := (F m (by omega) hz).1
    have I1 := H A T kap (D + 1) hA Q (envc E P.1 (fun l => (B.1 m P.1 (by omega) l).1) (ev_X_r s) (fun _ _ => rfl) P.2.2.2 hA (yw_same_r A 0 0 s.1 T) (fun j a b => by omega) G) (sub F (by omega) (by omega)) G d0 (by omega) (ctx1 A m T s.1 D hA (by omega) P.1 (by omega) (by omega) dm Ctx)
    refine ⟨fun v h => nr h, fun y hy hJ => ?_⟩
    cases hy
    refine up (I1.1 _ rfl (1 + D) (fun T2 kap2 Q2 hk2 S2 G3 d2 v2 => ⟨fun z => by omega, fun _ => ?_⟩)) (by unfold yw_c; omega)
    have hk := G1.2.2.1 _ rfl k rfl
    obtain ⟨_, _, l16⟩ := lc16 G1.1 hk
    have st := rifS 0 A m T2 _ (by omega) P.1 k6 d2 (v2.2 k rfl).1 l16 (hJ T2 Q2.1 Q2.2.1 Q2.2.2.1)
    exact up (Ctx T2 _ (yw_same_t S2 (yw_same_r A m (e m) s.1 T2) (Nat.le_refl _) (by omega) (by omega) (Nat.le_refl _) (Nat.le_refl _)) (by rw [(keep m S2 hA (by omega) (by omega)).1]; exact dm) st) (by omega)
  -- IF0 on a number
  · intro f env m s i s1 r s2 P k6 A1 G1 A2 G2 H1 H2 A T kap D hA Q E F G d0 hD Ctx
    have hs := P.2.2.1.1
    have hl := (TL m P.1).1
    have hz := (T1 m P.1).1
    have hm := P.1
    have hLL := (TL m P.1).2.2 (by omega)
    have he := tr_k6 T1 P.1 k6
    have hc1 := G1.2.1.1
    have hc2 := G2.2.1.1
    have hw1 := G1.1.1
    have hw2 := G2.1.1
    have dm := (F m (by omega) hz).1
    have hb : e (m + 1) ≤ (if i = 0 then e (m + 1) else e (e (m + 1))) ∧ e (if i = 0 then e (m + 1) else e (e (m + 1))) ≤ e m ∧ (if i = 0 then e (m + 1) else e (e (m + 1))) < e (if i = 0 then e (m + 1) else e (e (m + 1))) ∧ Lv (if i = 0 then e (m + 1) else e (e (m + 1))) = Lv m + 1 ∧ (∀ l, sc (if i = 0 then e (m + 1) else e (e (m + 1))) l = sc m l) := by
      by_cases z : i = 0
      · rw [if_pos z]; exact ⟨by omega, by omega, by omega, hLL.2.1, fun l => (B.1 m P.1 (by omega) l).2.1⟩
      · rw [if_neg z]; exact ⟨by omega, by omega, by omega, hLL.2.2 k6, fun l => (B.1 m P.1 (by omega) l).2.2 k6⟩
    have hcost : 294 + yw_c e (if i = 0 then e (m + 1) else e (e (m + 1))) s1 s2 + yw_c e (m + 1) s s1 ≤ yw_c e m s s2 := by
      unfold yw_c
      by_cases z : i = 0
      · rw [if_pos z]; omega
      · rw [if_neg z]; omega
    generalize hbn : (if i = 0 then e (m + 1) else e (e (m + 1))) = c' at *
    have I1 := H1 A T kap (D + 1) hA Q (envc E P.1 (fun l => (B.1 m P.1 (by omega) l).1) (ev_X_r s) (fun _ _ => rfl) P.2.2.2 hA (yw_same_r A 0 0 s.1 T) (fun j a b => by omega) G) (sub F (by omega) (by omega)) G d0 (by omega) (ctx1 A m T s.1 D hA (by omega) P.1 (by omega) (by omega) dm Ctx)
    have I2 : ∀ T2 kap2, yw_Q K N lc sc n s1 kap2 T2 → (∀ k, k < s.2.1 → kap2 k = kap k) → yw_same A (m + 1) (e (m + 1)) s.1 T T2 → yw_G s1.1 T2 → yw_dn T2 (A * 48 + (m + 1)) = 1 → yw_v lc s1 kap2 (.inl i) (yw_fn T2 (A * 48 + (m + 1))) (yw_vl T2 (A * 48 + (m + 1))) → _ := fun T2 kap2 Q2 hk2 S2 G3 d2 v2 => H2 A T2 kap2 (D + 1) (by omega) Q2 (envc E P.1 hb.2.2.2.2 G1.2.1 hk2 P.2.2.2 hA S2 (fun j a b => (F j (by omega) (by omega)).1) G) (frs S2 hA (by omega) (by omega) (sub F (by omega) (by omega))) G3 (zero S2 (by omega) d0) (by omega) (by
      have := ctxi A m T T2 s.1 s1.1 D i hA hc1 (by omega) P.1 k6 dm S2 d2 (v2.1 i rfl).1 (v2.1 i rfl).2 Ctx
      rw [hbn] at this
      exact this)
    refine ⟨fun v hv b fin => ?_, fun y hy hJ => ?_⟩
    · refine up (I1.1 _ rfl (b + 294 + yw_c e c' s1 s2) (fun T2 kap2 Q2 hk2 S2 G3 d2 v2 => ⟨fun z => by omega, fun _ => ?_⟩)) (by omega)
      refine up ((I2 T2 kap2 Q2 hk2 S2 G3 d2 v2).1 v hv (b + 294) (fun T3 kap3 Q3 hk3 S3 G4 d3 v3 => ⟨fun z => by omega, fun _ => ?_⟩)) (by omega)
      obtain ⟨j1, j2, j3, j4⟩ := keep (m + 1) S3 (by omega) (by omega) (by omega)
      have j5 := (keep m S2 hA (by omega) (by omega)).1
      have j6 := (keep m S3 (by omega) (by omega) (by omega)).1
      have dm3 : yw_dn T3 (A * 48 + m) = 0 := by rw [j6, j5]; exact dm
      have S13 : yw_same A m (e m) s.1 T T3 := yw_same_t S2 S3 hc1 (by omega) (by omega) (by omega) (by omega)
      obtain ⟨g1, g2, g3⟩ := yw_done B hL G2.1 Q3 G4 hA (by omega) (by omega) hz dm3 S13 (yw_fn T3 (A * 48 + c')) (yw_vl T3 (A * 48 + c'))
      obtain ⟨c1, c2, c3⟩ := yw_fin_at (A * 48 + m) (yw_fn T3 (A * 48 + c')) (yw_vl T3 (A * 48 + c')) T3
      have hf := fin _ kap3 g1 (fun k hk => (hk3 k (by have := G1.2.1.2.1; omega)).trans (hk2 k hk)) g2 g3 c1 (by rw [c2, c3]; exact v3)
      have st := rif b A m T3 i (A * 48 + c') (by omega) P.1 k6 (fun _ => zero S3 (by omega) (zero S2 (by omega) d0)) (by rw [j1]; exact d2) (by rw [j2]; exact (v2.1 i rfl).1) (by rw [j3]; exact (v2.1 i rfl).2) (by rw [hbn]) d3 hf
      exact up (Ctx T3 _ S13 dm3 st) (by omega)
    · refine up (I1.1 _ rfl (yw_c e c' s1 s2) (fun T2 kap2 Q2 hk2 S2 G3 d2 v2 => ⟨fun z => by omega, fun _ => ?_⟩)) (by omega)
      exact (I2 T2 kap2 Q2 hk2 S2 G3 d2 v2).2 y hy hJ
  -- an end in the second child
  · intro f env m s v s1 x s2 P k k6 A1 G1 A2 G2 H1 H2 A T kap D hA Q E F G d0 hD Ctx
    have hs := P.2.2.1.1
    have hl := (TL m P.1).1
    have hz := (T1 m P.1).1
    have hm := P.1
    have hLL := (TL m P.1).2.2 (by omega)
    have he := tr_k3 T1 P.1 (by omega) (by omega)
    have hc1 := G1.2.1.1
    have hc2 := G2.2.1.1
    have hw1 := G1.1.1
    have hw2 := G2.1.1
    have dm := (F m (by omega) hz).1
    have em := (F m (by omega) hz).2
    have I1 := H1 A T kap (D + 1) hA Q (envc E P.1 (fun l => (B.1 m P.1 (by omega) l).1) (ev_X_r s) (fun _ _ => rfl) P.2.2.2 hA (yw_same_r A 0 0 s.1 T) (fun j a b => by omega) G) (sub F (by omega) (by omega)) G d0 (by omega) (ctx1 A m T s.1 D hA (by omega) P.1 (by omega) (by omega) dm Ctx)
    have I2 : ∀ T2 kap2, yw_Q K N lc sc n s1 kap2 T2 → (∀ k, k < s.2.1 → kap2 k = kap k) → yw_same A (m + 1) (e (m + 1)) s.1 T T2 → yw_G s1.1 T2 → yw_dn T2 (A * 48 + (m + 1)) = 1 → _ := fun T2 kap2 Q2 hk2 S2 G3 d2 => H2 A T2 kap2 (D + 1) (by omega) Q2 (envc E P.1 (fun l => (B.1 m P.1 (by omega) l).2.1) G1.2.1 hk2 P.2.2.2 hA S2 (fun j a b => (F j (by omega) (by omega)).1) G) (frs S2 hA (by omega) (by omega) (sub F (by omega) (by omega))) G3 (zero S2 (by omega) d0) (by omega) (ctx2 A m T T2 s.1 s1.1 D hA hc1 (by omega) P.1 (by omega) (by omega) dm S2 d2 Ctx)
    refine ⟨fun v h => nr h, fun y hy hJ => ?_⟩
    refine up (I1.1 _ rfl (yw_c e (e (m + 1)) s1 s2) (fun T2 kap2 Q2 hk2 S2 G3 d2 v2 => ⟨fun z => by omega, fun _ => ?_⟩)) (by unfold yw_c; omega)
    exact (I2 T2 kap2 Q2 hk2 S2 G3 d2).2 y hy hJ
  -- APP on a number
  · intro f env m s i s1 x s2 P k A1 G1 A2 G2 H1 H2 A T kap D hA Q E F G d0 hD Ctx
    have hs := P.2.2.1.1
    have hl := (TL m P.1).1
    have hz := (T1 m P.1).1
    have hm := P.1
    have hLL := (TL m P.1).2.2 (by omega)
    have he := tr_k3 T1 P.1 (by omega) (by omega)
    have hc1 := G1.2.1.1
    have hc2 := G2.2.1.1
    have hw1 := G1.1.1
    have hw2 := G2.1.1
    have dm := (F m (by omega) hz).1
    have em := (F m (by omega) hz).2
    have I1 := H1 A T kap (D + 1) hA Q (envc E P.1 (fun l => (B.1 m P.1 (by omega) l).1) (ev_X_r s) (fun _ _ => rfl) P.2.2.2 hA (yw_same_r A 0 0 s.1 T) (fun j a b => by omega) G) (sub F (by omega) (by omega)) G d0 (by omega) (ctx1 A m T s.1 D hA (by omega) P.1 (by omega) (by omega) dm Ctx)
    have I2 : ∀ T2 kap2, yw_Q K N lc sc n s1 kap2 T2 → (∀ k, k < s.2.1 → kap2 k = kap k) → yw_same A (m + 1) (e (m + 1)) s.1 T T2 → yw_G s1.1 T2 → yw_dn T2 (A * 48 + (m + 1)) = 1 → _ := fun T2 kap2 Q2 hk2 S2 G3 d2 => H2 A T2 kap2 (D + 1) (by omega) Q2 (envc E P.1 (fun l => (B.1 m P.1 (by omega) l).2.1) G1.2.1 hk2 P.2.2.2 hA S2 (fun j a b => (F j (by omega) (by omega)).1) G) (frs S2 hA (by omega) (by omega) (sub F (by omega) (by omega))) G3 (zero S2 (by omega) d0) (by omega) (ctx2 A m T T2 s.1 s1.1 D hA hc1 (by omega) P.1 (by omega) (by omega) dm S2 d2 Ctx)
    refine ⟨fun v h => nr h, fun y hy hJ => ?_⟩
    cases hy
    refine up (I1.1 _ rfl (294 + yw_c e (e (m + 1)) s1 s2) (fun T2 kap2 Q2 hk2 S2 G3 d2 v2 => ⟨fun z => by omega, fun _ => ?_⟩)) (by unfold yw_c; omega)
    refine up ((I2 T2 kap2 Q2 hk2 S2 G3 d2).1 _ rfl 294 (fun T3 kap3 Q3 hk3 S3 G4 d3 v3 => ⟨fun z => by omega, fun _ => ?_⟩)) (by omega)
    have hne2 : ¬ A * 48 + e (m + 1) = 0 := by omega
    obtain ⟨j1, j2, j3, j4⟩ := keep (m + 1) S3 (by omega) (by omega) (by omega)
    have j5 := (keep m S2 hA (by omega) (by omega))
    have j6 := (keep m S3 (by omega) (by omega) (by omega))
    have dm3 : yw_dn T3 (A * 48 + m) = 0 := by rw [j6.1, j5.1]; exact dm
    have em3 : yw_et T3 (A * 48 + m) = 0 := by rw [j6.2.2.2, j5.2.2.2]; exact em
    have S13 : yw_same A m (e m) s.1 T T3 := yw_same_t S2 S3 hc1 (by omega) (by omega) (by omega) (by omega)
    have st := rappS 0 A m T3 (by omega) P.1 k (by rw [j1]; exact d2) d3 em3 (by rw [j2]; exact (v2.1 i rfl).1) (hJ T3 Q3.1 Q3.2.1 Q3.2.2.1)
    exact up (Ctx T3 _ S13 dm3 st) (by omega)
  -- APP at the call limit
  · intro f env m s j s1 x s2 P k hc A1 G1 A2 G2 H1 H2 A T kap D hA Q E F G d0 hD Ctx
    have hs := P.2.2.1.1
    have hl := (TL m P.1).1
    have hz := (T1 m P.1).1
    have hm := P.1
    have hLL := (TL m P.1).2.2 (by omega)
    have he := tr_k3 T1 P.1 (by omega) (by omega)
    have hc1 := G1.2.1.1
    have hc2 := G2.2.1.1
    have hw1 := G1.1.1
    have hw2 := G2.1.1
    have dm := (F m (by omega) hz).1
    have em := (F m (by omega) hz).2
    have I1 := H1 A T kap (D + 1) hA Q (envc E P.1 (fun l => (B.1 m P.1 (by omega) l).1) (ev_X_r s) (fun _ _ => rfl) P.2.2.2 hA (yw_same_r A 0 0 s.1 T) (fun j a b => by omega) G) (sub F (by omega) (by omega)) G d0 (by omega) (ctx1 A m T s.1 D hA (by omega) P.1 (by omega) (by omega) dm Ctx)
    have I2 : ∀ T2 kap2, yw_Q K N lc sc n s1 kap2 T2 → (∀ k, k < s.2.1 → kap2 k = kap k) → yw_same A (m + 1) (e (m + 1)) s.1 T T2 → yw_G s1.1 T2 → yw_dn T2 (A * 48 + (m + 1)) = 1 → _ := fun T2 kap2 Q2 hk2 S2 G3 d2 => H2 A T2 kap2 (D + 1) (by omega) Q2 (envc E P.1 (fun l => (B.1 m P.1 (by omega) l).2.1) G1.2.1 hk2 P.2.2.2 hA S2 (fun j a b => (F j (by omega) (by omega)).1) G) (frs S2 hA (by omega) (by omega) (sub F (by omega) (by omega))) G3 (zero S2 (by omega) d0) (by omega) (ctx2 A m T T2 s.1 s1.1 D hA hc1 (by omega) P.1 (by omega) (by omega) dm S2 d2 Ctx)
    refine ⟨fun v h => nr h, fun y hy hJ => ?_⟩
    cases hy
    obtain ⟨_, _, l16⟩ := lc16 G1.1 (G1.2.2.1 _ rfl j rfl)
    refine up (I1.1 _ rfl (294 + yw_c e (e (m + 1)) s1 s2) (fun T2 kap2 Q2 hk2 S2 G3 d2 v2 => ⟨fun z => by omega, fun _ => ?_⟩)) (by unfold yw_c; omega)
    refine up ((I2 T2 kap2 Q2 hk2 S2 G3 d2).1 _ rfl 294 (fun T3 kap3 Q3 hk3 S3 G4 d3 v3 => ⟨fun z => by omega, fun _ => ?_⟩)) (by omega)
    have hne2 : ¬ A * 48 + e (m + 1) = 0 := by omega
    obtain ⟨j1, j2, j3, j4⟩ := keep (m + 1) S3 (by omega) (by omega) (by omega)
    have j5 := (keep m S2 hA (by omega) (by omega))
    have j6 := (keep m S3 (by omega) (by omega) (by omega))
    have dm3 : yw_dn T3 (A * 48 + m) = 0 := by rw [j6.1, j5.1]; exact dm
    have em3 : yw_et T3 (A * 48 + m) = 0 := by rw [j6.2.2.2, j5.2.2.2]; exact em
    have S13 : yw_same A m (e m) s.1 T T3 := yw_same_t S2 S3 hc1 (by omega) (by omega) (by omega) (by omega)
    have st := rappC 0 A m T3 _ (by omega) P.1 k (by rw [j1]; exact d2) d3 em3 (by rw [j2]; exact (v2.2 j rfl).1) l16 (Q3.1.trans hc) (hJ T3 Q3.1 Q3.2.1 Q3.2.2.1)
    exact up (Ctx T3 _ S13 dm3 st) (by omega)
  -- APP
  · intro f env m s j s1 x s2 r s3 P k hc A1 G1 A2 G2 A3 G3 H1 H2 H3 A T kap D hA Q E F G d0 hD Ctx
    have hs := P.2.2.1.1
    have hl := (TL m P.1).1
    have hz := (T1 m P.1).1
    have hm := P.1
    have hLL := (TL m P.1).2.2 (by omega)
    have he := tr_k3 T1 P.1 (by omega) (by omega)
    have hc1 := G1.2.1.1
    have hc2 := G2.2.1.1
    have hw1 := G1.1.1
    have hw2 := G2.1.1
    have hc3 : s2.1 + 1 ≤ s3.1 := G3.2.1.1
    have dm := (F m (by omega) hz).1
    have em := (F m (by omega) hz).2
    have hj1 := G1.2.2.1 _ rfl j rfl
    have hj2 : j < s2.2.1 := Nat.lt_of_lt_of_le hj1 G2.2.1.2.1
    obtain ⟨p1, p2, l16⟩ := lc16 G2.1 hj2
    have pe := (G2.2.1.2.2 j hj1).1
    have hb := tr_k2 T1 p1 p2
    have hLb := (TL _ p1).2.1 p2
    have hcost : 294 + 294 + yw_c e (s2.2.2.1 j + 1) (ev_call bm m j s2) s3 + yw_c e (e (m + 1)) s1 s2 + yw_c e (m + 1) s s1 ≤ yw_c e m s s3 := by
      show 294 + 294 + 294 * ((e (s2.2.2.1 j + 1) - (s2.2.2.1 j + 1)) + 49 * (s3.1 - (s2.1 + 1))) + 294 * ((e (e (m + 1)) - e (m + 1)) + 49 * (s2.1 - s1.1)) + 294 * ((e (m + 1) - (m + 1)) + 49 * (s1.1 - s.1)) ≤ 294 * ((e m - m) + 49 * (s3.1 - s.1))
      omega
    have I1 := H1 A T kap (D + 1) hA Q (envc E P.1 (fun l => (B.1 m P.1 (by omega) l).1) (ev_X_r s) (fun _ _ => rfl) P.2.2.2 hA (yw_same_r A 0 0 s.1 T) (fun j a b => by omega) G) (sub F (by omega) (by omega)) G d0 (by omega) (ctx1 A m T s.1 D hA (by omega) P.1 (by omega) (by omega) dm Ctx)
    have I2 : ∀ T2 kap2, yw_Q K N lc sc n s1 kap2 T2 → (∀ k, k < s.2.1 → kap2 k = kap k) → yw_same A (m + 1) (e (m + 1)) s.1 T T2 → yw_G s1.1 T2 → yw_dn T2 (A * 48 + (m + 1)) = 1 → _ := fun T2 kap2 Q2 hk2 S2 G3 d2 => H2 A T2 kap2 (D + 1) (by omega) Q2 (envc E P.1 (fun l => (B.1 m P.1 (by omega) l).2.1) G1.2.1 hk2 P.2.2.2 hA S2 (fun j a b => (F j (by omega) (by omega)).1) G) (frs S2 hA (by omega) (by omega) (sub F (by omega) (by omega))) G3 (zero S2 (by omega) d0) (by omega) (ctx2 A m T T2 s.1 s1.1 D hA hc1 (by omega) P.1 (by omega) (by omega) dm S2 d2 Ctx)
    -- the call itself, from the tables behind both children
    have I3 : ∀ T3 kap3, yw_Q K N lc sc n s2 kap3 T3 → yw_same A m (e m) s.1 T T3 → yw_G s2.1 T3 → yw_dn T3 0 = 0 → yw_dn T3 (A * 48 + m) = 0 → yw_et T3 (A * 48 + m) = 0 → yw_dn T3 (A * 48 + (m + 1)) = 1 → yw_dn T3 (A * 48 + e (m + 1)) = 1 → yw_v lc s2 kap3 (.inr j) (yw_fn T3 (A * 48 + (m + 1))) (yw_vl T3 (A * 48 + (m + 1))) → yw_v lc s2 kap3 x (yw_fn T3 (A * 48 + e (m + 1))) (yw_vl T3 (A * 48 + e (m + 1))) →
        (∀ v, r = .inl v → ∀ b, (∀ T' kap', yw_Q K N lc sc n s3 kap' T' → (∀ k, k < s2.2.1 → kap' k = kap3 k) → yw_same A m (e m) s.1 T T' → yw_G s3.1 T' → yw_dn T' (A * 48 + m) = 1 → yw_v lc s3 kap' v (yw_fn T' (A * 48 + m)) (yw_vl T' (A * 48 + m)) → (A * 48 + m = 0 → JV T') ∧ (A * 48 + m ≠ 0 → Y b 0 T')) → Y (b + (294 + 294 + yw_c e (s2.2.2.1 j + 1) (ev_call bm m j s2) s3)) 0 T3) ∧
        (∀ y, r = .inr y → (∀ T', T'.1 = s3.1 → T'.2.1 = s3.2.1 → yw_cs T' = s3.2.2.2.2 → JX y T') → Y (294 + yw_c e (s2.2.2.1 j + 1) (ev_call bm m j s2) s3) 0 T3) := by
      intro T3 kap3 Q3 S13 G4 d03 dm3 em3 d2 d3 v2 v3
      obtain ⟨ka, kE⟩ := Q3.2.2.2 j hj2
      have hT : T3.1 = s2.1 := Q3.1
      have st : ∀ b, Y b 0 (yw_call bm m (A * 48 + m) (kap3 j) (lc (s2.2.2.1 j)) (A * 48 + e (m + 1)) (s2.2.2.1 j) T3) → Y (b + 294) 0 T3 := fun b h => by
        have := rapp b A m T3 (s2.2.2.1 j) (kap3 j) (by omega) P.1 k d2 d3 em3 p1 p2 (v2.2 j rfl).1 (v2.2 j rfl).2 (by omega) (by omega) d03 dm3 h
        exact up (Ctx T3 _ S13 dm3 this) (by omega)
      generalize hT4 : yw_call bm m (A * 48 + m) (kap3 j) (lc (s2.2.2.1 j)) (A * 48 + e (m + 1)) (s2.2.2.1 j) T3 = T4 at st
      have t1 : T4.1 = s2.1 + 1 := by rw [← hT4]; exact congrArg (· + 1) hT
      have t2 : T4.2.1 = s2.2.1 := by rw [← hT4]; exact Q3.2.1
      have t3 : yw_dn T4 = yw_dn T3 := by rw [← hT4]; rfl
      have t4 : yw_fn T4 = yw_fn T3 := by rw [← hT4]; rfl
      have t5 : yw_vl T4 = yw_vl T3 := by rw [← hT4]; rfl
      have t6 : yw_et T4 = tr_put (yw_et T3) (A * 48 + m) ((s2.1 + 1) * 48 + (s2.2.2.1 j + 1)) := by rw [← hT4, ← hT]; rfl
      have t7 : yw_bi T4 = (fun i => if i = (s2.1 + 1) * 16 + lc (s2.2.2.1 j) then A * 48 + e (m + 1) else if (s2.1 + 1) * 16 ≤ i ∧ i < (s2.1 + 1) * 16 + 16 then yw_bi T3 (kap3 j * 16 + (i - (s2.1 + 1) * 16)) else yw_bi T3 i) := by rw [← hT4, ← hT]; rfl
      have t8 : yw_cs T4 = (ev_call bm m j s2).2.2.2.2 := by
        rw [← hT4]
        show (fun i => if i = m then yw_cs T3 m ||| bm (s2.2.2.1 j) else yw_cs T3 i) = _
        rw [Q3.2.2.1]
        rfl
      have ne : ∀ A' m', m' < 48 → ¬ (A' = A ∧ m' = m) → yw_et T4 (A' * 48 + m') = yw_et T3 (A' * 48 + m') := fun A' m' h z => by
        rw [t6]
        exact tr_put_n _ _ (fun w => z (yw_cell (by omega) h w))
      have S34 : yw_same A m (m + 1) s2.1 T3 T4 := by
        refine ⟨fun A' m' a b z => ⟨by rw [t3], by rw [t4], by rw [t5], ne A' m' b (fun w => z ⟨w.1, by omega, by omega⟩)⟩, fun A' l a b => ?_⟩
        rw [t7]
        show (if A' * 16 + l = (s2.1 + 1) * 16 + lc (s2.2.2.1 j) then A * 48 + e (m + 1) else if (s2.1 + 1) * 16 ≤ A' * 16 + l ∧ A' * 16 + l < (s2.1 + 1) * 16 + 16 then yw_bi T3 (kap3 j * 16 + (A' * 16 + l - (s2.1 + 1) * 16)) else yw_bi T3 (A' * 16 + l)) = _
        rw [if_neg (by omega), if_neg (by omega)]
      have F34 : ∀ i, m ≤ i → i < m + 1 → yw_dn T3 (A * 48 + i) = 0 := fun i a b => by
        have : i = m := by omega
        rw [this]; exact dm3
      have Xc := ev_call_X bm m j s2
      have Q4 : yw_Q K N lc sc n (ev_call bm m j s2) kap3 T4 := by
        refine ⟨t1, t2, t8, fun k hk => ?_⟩
        obtain ⟨a1, a2⟩ := Q3.2.2.2 k hk
        obtain ⟨b1, b2, b3⟩ := G2.1.2.2 k hk
        exact ⟨Nat.le_succ_of_le a1, yw_E_up B hL a2 b1 (fun _ => rfl) Xc (fun _ _ => rfl) b3 a1 S34 F34 G4⟩
      have E4 : yw_E K N lc sc n (ev_call bm m j s2) kap3 T4 (s2.1 + 1) (s2.2.2.1 j + 1) (ev_env N j x s2) := by
        intro b hb kb z
        have hl16 : lc b < 16 := by have := (B.2.2.1 b hb kb).2; omega
        rcases B.2.1 _ p1 p2 _ z with y | y
        · have hN := B.2.2.2.2.1 _ p1 b hb kb y
          have hne : lc b ≠ lc (s2.2.2.1 j) := fun w => by
            have := B.2.2.2.2.2 _ _ hb p1 kb p2 w
            rw [this] at hN
            omega
          have hbi : yw_bi T4 ((s2.1 + 1) * 16 + lc b) = yw_bi T3 (kap3 j * 16 + lc b) := by
            rw [t7]
            show (if (s2.1 + 1) * 16 + lc b = (s2.1 + 1) * 16 + lc (s2.2.2.1 j) then A * 48 + e (m + 1) else if (s2.1 + 1) * 16 ≤ (s2.1 + 1) * 16 + lc b ∧ (s2.1 + 1) * 16 + lc b < (s2.1 + 1) * 16 + 16 then yw_bi T3 (kap3 j * 16 + ((s2.1 + 1) * 16 + lc b - (s2.1 + 1) * 16)) else yw_bi T3 ((s2.1 + 1) * 16 + lc b)) = _
            rw [if_neg (by omega), if_pos (by omega), Nat.add_sub_cancel_left]
          rw [hbi, t3, t4, t5]
          have hen : ev_env N j x s2 (N b) = s2.2.2.2.1 j (N b) := if_neg (by omega)
          rw [hen]
          exact kE b hb kb y
        · have hbp := B.2.2.2.2.2 _ _ hb p1 kb p2 y
          have hbi : yw_bi T4 ((s2.1 + 1) * 16 + lc b) = A * 48 + e (m + 1) := by
            rw [t7, y]
            exact if_pos rfl
          rw [hbi, t3, t4, t5]
          have hen : ev_env N j x s2 (N b) = x := by rw [hbp]; exact if_pos rfl
          rw [hen]
          exact ⟨by omega, d3, v3⟩
      have F4 : yw_F (s2.1 + 1) (s2.2.2.1 j + 1) (e (s2.2.2.1 j + 1)) T4 := fun i a b => by
        obtain ⟨g1, g2⟩ := G4 (s2.1 + 1) i (by omega) (by omega) (by omega)
        exact ⟨by rw [t3]; exact g1, by rw [ne _ _ (by omega) (by omega)]; exact g2⟩
      have G5 : yw_G (s2.1 + 1) T4 := fun A' i a b c => by
        obtain ⟨g1, g2⟩ := G4 A' i (by omega) b c
        exact ⟨by rw [t3]; exact g1, by rw [ne _ _ c (by omega)]; exact g2⟩
      have S14 : yw_same A m (e m) s.1 T T4 := yw_same_t S13 S34 (by omega) (Nat.le_refl _) (Nat.le_refl _) (Nat.le_refl _) (by omega)
      have et4 : yw_et T4 (A * 48 + m) = (s2.1 + 1) * 48 + (s2.2.2.1 j + 1) := by rw [t6, tr_put_s]
      -- what is seen of the call while its body is at work, and behind it
      have see : ∀ T', yw_same (s2.1 + 1) (s2.2.2.1 j + 1) (e (s2.2.2.1 j + 1)) (s2.1 + 1) T4 T' → yw_dn T' (A * 48 + m) = 0 ∧ yw_et T' (A * 48 + m) = (s2.1 + 1) * 48 + (s2.2.2.1 j + 1) ∧ yw_dn T' (A * 48 + (m + 1)) = 1 ∧ yw_dn T' (A * 48 + e (m + 1)) = 1 ∧ yw_fn T' (A * 48 + (m + 1)) = nI (lc (s2.2.2.1 j)) ∧ yw_same A m (e m) s.1 T T' ∧ yw_dn T' 0 = 0 := fun T' S => by
        obtain ⟨a1, _, _, a4⟩ := S.1 A m (by omega) (by omega) (by omega)
        obtain ⟨b1, b2, _, _⟩ := S.1 A (m + 1) (by omega) (by omega) (by omega)
        have c1 := (S.1 A (e (m + 1)) (by omega) (by omega) (by omega)).1
        have z1 : yw_dn T' 0 = yw_dn T4 0 := (S.1 0 0 (by omega) (by omega) (by omega)).1
        exact ⟨by rw [a1, t3]; exact dm3, by rw [a4]; exact et4, by rw [b1, t3]; exact d2, by rw [c1, t3]; exact d3, by rw [b2, t4]; exact (v2.2 j rfl).1, yw_same_t S14 (yw_same_b (A := A) (l := m) (h := e m) (c := s.1) S (by omega) (by omega)) (Nat.le_refl _) (Nat.le_refl _) (Nat.le_refl _) (Nat.le_refl _) (Nat.le_refl _), by rw [z1, t3]; exact d03⟩
      have ctx3 : ∀ T' b, yw_same (s2.1 + 1) (s2.2.2.1 j + 1) (e (s2.2.2.1 j + 1)) (s2.1 + 1) T4 T' → yw_dn T' ((s2.1 + 1) * 48 + (s2.2.2.1 j + 1)) = 0 → Y b ((s2.1 + 1) * 48 + (s2.2.2.1 j + 1)) T' → Y (b + (D + 1)) 0 T' := fun T' b S d h => by
        obtain ⟨a1, a2, a3, a4, a5, a6, a7⟩ := see T' S
        have := w3 b A m T' _ (by omega) P.1 k a3 a4 a2 (by omega) (by omega) d h
        exact up (Ctx T' _ a6 a1 this) (by omega)
      have IH := H3 (s2.1 + 1) T4 kap3 (D + 1) (Nat.le_refl _) Q4 E4 F4 G5 (by rw [t3]; exact d03) (by omega) ctx3
      refine ⟨fun v hv b fin => ?_, fun y hy hJ => ?_⟩
      · refine up (st _ (IH.1 v hv (b + 294) (fun T5 kap5 Q5 hk5 S5 G6 d5 v5 => ⟨fun z => by omega, fun _ => ?_⟩))) (by omega)
        obtain ⟨a1, a2, a3, a4, a5, a6, a7⟩ := see T5 S5
        obtain ⟨g1, g2, g3⟩ := yw_done B hL G3.1 Q5 G6 hA (by omega) (by omega) hz a1 a6 (yw_fn T5 ((s2.1 + 1) * 48 + (s2.2.2.1 j + 1))) (yw_vl T5 ((s2.1 + 1) * 48 + (s2.2.2.1 j + 1)))
        obtain ⟨c1, c2, c3⟩ := yw_fin_at (A * 48 + m) (yw_fn T5 ((s2.1 + 1) * 48 + (s2.2.2.1 j + 1))) (yw_vl T5 ((s2.1 + 1) * 48 + (s2.2.2.1 j + 1))) T5
        have hf := fin _ kap5 g1 hk5 g2 g3 c1 (by rw [c2, c3]; exact v5)
        have := rappR b A m T5 _ _ (by omega) P.1 k (fun _ => a7) a3 a4 a2 (by omega) (by omega) d5 a1 a5 l16 hf
        exact up (Ctx T5 _ a6 a1 this) (by omega)
      · exact up (st _ (IH.2 y hy hJ)) (by omega)
    -- both children, then the call
    have bring : ∀ {T2 T3 : yw_S} {kap2 kap3 : Nat → Nat}, yw_same A (m + 1) (e (m + 1)) s.1 T T2 → yw_same A (e (m + 1)) (e (e (m + 1))) s1.1 T2 T3 → (∀ k, k < s1.2.1 → kap3 k = kap2 k) → yw_dn T2 (A * 48 + (m + 1)) = 1 → yw_v lc s1 kap2 (.inr j) (yw_fn T2 (A * 48 + (m + 1))) (yw_vl T2 (A * 48 + (m + 1))) → yw_same A m (e m) s.1 T T3 ∧ yw_dn T3 0 = 0 ∧ yw_dn T3 (A * 48 + m) = 0 ∧ yw_et T3 (A * 48 + m) = 0 ∧ yw_dn T3 (A * 48 + (m + 1)) = 1 ∧ yw_v lc s2 kap3 (.inr j) (yw_fn T3 (A * 48 + (m + 1))) (yw_vl T3 (A * 48 + (m + 1))) := fun {T2 T3 kap2 kap3} S2 S3 hk d2 v2 => by
      obtain ⟨j1, j2, j3, _⟩ := keep (m + 1) S3 (by omega) (by omega) (by omega)
      have j5 := keep m S2 hA (by omega) (by omega)
      have j6 := keep m S3 (by omega) (by omega) (by omega)
      refine ⟨yw_same_t S2 S3 hc1 (by omega) (by omega) (by omega) (by omega), zero S3 (by omega) (zero S2 (by omega) d0), by rw [j6.1, j5.1]; exact dm, by rw [j6.2.2.2, j5.2.2.2]; exact em, by rw [j1]; exact d2, ?_⟩
      rw [j2, j3]
      exact yw_v_up v2 G2.2.1 hk (G1.2.2.1 _ rfl)
    refine ⟨fun v hv b fin => ?_, fun y hy hJ => ?_⟩
    · refine up (I1.1 _ rfl (b + (294 + 294 + yw_c e (s2.2.2.1 j + 1) (ev_call bm m j s2) s3) + yw_c e (e (m + 1)) s1 s2) (fun T2 kap2 Q2 hk2 S2 Ga d2 v2 => ⟨fun z => by omega, fun _ => ?_⟩)) (by omega)
      refine (I2 T2 kap2 Q2 hk2 S2 Ga d2).1 _ rfl _ (fun T3 kap3 Q3 hk3 S3 Gb d3 v3 => ⟨fun z => by omega, fun _ => ?_⟩)
      obtain ⟨e1, e2, e3, e4, e5, e6⟩ := bring S2 S3 hk3 d2 v2
      exact (I3 T3 kap3 Q3 e1 Gb e2 e3 e4 e5 d3 e6 v3).1 v hv b (fun T' kap' u1 u2 u3 u4 u5 u6 => fin T' kap' u1 (fun i hi => ((u2 i (by have := G1.2.1.2.1; have := G2.2.1.2.1; omega)).trans (hk3 i (by have := G1.2.1.2.1; omega))).trans (hk2 i hi)) u3 u4 u5 u6)
    · refine up (I1.1 _ rfl (294 + yw_c e (s2.2.2.1 j + 1) (ev_call bm m j s2) s3 + yw_c e (e (m + 1)) s1 s2) (fun T2 kap2 Q2 hk2 S2 Ga d2 v2 => ⟨fun z => by omega, fun _ => ?_⟩)) (by omega)
      refine (I2 T2 kap2 Q2 hk2 S2 Ga d2).1 _ rfl _ (fun T3 kap3 Q3 hk3 S3 Gb d3 v3 => ⟨fun z => by omega, fun _ => ?_⟩)
      obtain ⟨e1, e2, e3, e4, e5, e6⟩ := bring S2 S3 hk3 d2 v2
      exact (I3 T3 kap3 Q3 e1 Gb e2 e3 e4 e5 d3 e6 v3).2 y hy hJ
  -- ADD, SUB
  · intro f env m s i s1 j s2 P k A1 G1 A2 G2 H1 H2 A T kap D hA Q E F G d0 hD Ctx
    have hs := P.2.2.1.1
    have hl := (TL m P.1).1
    have hz := (T1 m P.1).1
    have hm := P.1
    have hLL := (TL m P.1).2.2 (by omega)
    have he := tr_k3 T1 P.1 (by omega) (by omega)
    have hc1 := G1.2.1.1
    have hc2 := G2.2.1.1
    have hw1 := G1.1.1
    have hw2 := G2.1.1
    have dm := (F m (by omega) hz).1
    have em := (F m (by omega) hz).2
    have I1 := H1 A T kap (D + 1) hA Q (envc E P.1 (fun l => (B.1 m P.1 (by omega) l).1) (ev_X_r s) (fun _ _ => rfl) P.2.2.2 hA (yw_same_r A 0 0 s.1 T) (fun j a b => by omega) G) (sub F (by omega) (by omega)) G d0 (by omega) (ctx1 A m T s.1 D hA (by omega) P.1 (by omega) (by omega) dm Ctx)
    have I2 : ∀ T2 kap2, yw_Q K N lc sc n s1 kap2 T2 → (∀ k, k < s.2.1 → kap2 k = kap k) → yw_same A (m + 1) (e (m + 1)) s.1 T T2 → yw_G s1.1 T2 → yw_dn T2 (A * 48 + (m + 1)) = 1 → _ := fun T2 kap2 Q2 hk2 S2 G3 d2 => H2 A T2 kap2 (D + 1) (by omega) Q2 (envc E P.1 (fun l => (B.1 m P.1 (by omega) l).2.1) G1.2.1 hk2 P.2.2.2 hA S2 (fun j a b => (F j (by omega) (by omega)).1) G) (frs S2 hA (by omega) (by omega) (sub F (by omega) (by omega))) G3 (zero S2 (by omega) d0) (by omega) (ctx2 A m T T2 s.1 s1.1 D hA hc1 (by omega) P.1 (by omega) (by omega) dm S2 d2 Ctx)
    refine ⟨fun v hv b fin => ?_, fun x h => nl h⟩
    cases hv
    refine up (I1.1 _ rfl (b + 294 + yw_c e (e (m + 1)) s1 s2) (fun T2 kap2 Q2 hk2 S2 G3 d2 v2 => ⟨fun z => by omega, fun _ => ?_⟩)) (by unfold yw_c; omega)
    refine up ((I2 T2 kap2 Q2 hk2 S2 G3 d2).1 _ rfl (b + 294) (fun T3 kap3 Q3 hk3 S3 G4 d3 v3 => ⟨fun z => by omega, fun _ => ?_⟩)) (by omega)
    have hne2 : ¬ A * 48 + e (m + 1) = 0 := by omega
    obtain ⟨j1, j2, j3, j4⟩ := keep (m + 1) S3 (by omega) (by omega) (by omega)
    have j5 := (keep m S2 hA (by omega) (by omega))
    have j6 := (keep m S3 (by omega) (by omega) (by omega))
    have dm3 : yw_dn T3 (A * 48 + m) = 0 := by rw [j6.1, j5.1]; exact dm
    have em3 : yw_et T3 (A * 48 + m) = 0 := by rw [j6.2.2.2, j5.2.2.2]; exact em
    have S13 : yw_same A m (e m) s.1 T T3 := yw_same_t S2 S3 hc1 (by omega) (by omega) (by omega) (by omega)
    have vi : yw_vl T3 (A * 48 + (m + 1)) = i := by rw [j3]; exact (v2.1 i rfl).2
    have vj : yw_vl T3 (A * 48 + e (m + 1)) = j := (v3.1 j rfl).2
    obtain ⟨g1, g2, g3⟩ := yw_done B hL G2.1 Q3 G4 hA (by omega) (by omega) hz dm3 S13 (-1) (if K m = 4 then i + j else i - j)
    obtain ⟨c1, c2, c3⟩ := yw_fin_at (A * 48 + m) (-1) (if K m = 4 then i + j else i - j) T3
    have hf := fin _ kap3 g1 (fun k hk => (hk3 k (by have := G1.2.1.2.1; omega)).trans (hk2 k hk)) g2 g3 c1 (by rw [c2, c3]; exact ⟨fun i z => by cases z; exact ⟨rfl, rfl⟩, fun _ z => nomatch z⟩)
    have st := rsum b A m T3 (by omega) P.1 k (fun _ => zero S3 (by omega) (zero S2 (by omega) d0)) (by rw [j1]; exact d2) d3 (by rw [j2]; exact (v2.1 i rfl).1) (v3.1 j rfl).1 (by rw [vi, vj]; exact hf)
    exact up (Ctx T3 _ S13 dm3 st) (by omega)
  · intro f env m s v s1 x s2 P k hv A1 G1 A2 G2 H1 H2 A T kap D hA Q E F G d0 hD Ctx
    have hs := P.2.2.1.1
    have hl := (TL m P.1).1
    have hz := (T1 m P.1).1
    have hm := P.1
    have hLL := (TL m P.1).2.2 (by omega)
    have he := tr_k3 T1 P.1 (by omega) (by omega)
    have hc1 := G1.2.1.1
    have hc2 := G2.2.1.1
    have hw1 := G1.1.1
    have hw2 := G2.1.1
    have dm := (F m (by omega) hz).1
    have em := (F m (by omega) hz).2
    have I1 := H1 A T kap (D + 1) hA Q (envc E P.1 (fun l => (B.1 m P.1 (by omega) l).1) (ev_X_r s) (fun _ _ => rfl) P.2.2.2 hA (yw_same_r A 0 0 s.1 T) (fun j a b => by omega) G) (sub F (by omega) (by omega)) G d0 (by omega) (ctx1 A m T s.1 D hA (by omega) P.1 (by omega) (by omega) dm Ctx)
    have I2 : ∀ T2 kap2, yw_Q K N lc sc n s1 kap2 T2 → (∀ k, k < s.2.1 → kap2 k = kap k) → yw_same A (m + 1) (e (m + 1)) s.1 T T2 → yw_G s1.1 T2 → yw_dn T2 (A * 48 + (m + 1)) = 1 → _ := fun T2 kap2 Q2 hk2 S2 G3 d2 => H2 A T2 kap2 (D + 1) (by omega) Q2 (envc E P.1 (fun l => (B.1 m P.1 (by omega) l).2.1) G1.2.1 hk2 P.2.2.2 hA S2 (fun j a b => (F j (by omega) (by omega)).1) G) (frs S2 hA (by omega) (by omega) (sub F (by omega) (by omega))) G3 (zero S2 (by omega) d0) (by omega) (ctx2 A m T T2 s.1 s1.1 D hA hc1 (by omega) P.1 (by omega) (by omega) dm S2 d2 Ctx)
    refine ⟨fun v h => nr h, fun y hy hJ => ?_⟩
    cases hy
    refine up (I1.1 _ rfl (294 + yw_c e (e (m + 1)) s1 s2) (fun T2 kap2 Q2 hk2 S2 G3 d2 v2 => ⟨fun z => by omega, fun _ => ?_⟩)) (by unfold yw_c; omega)
    refine up ((I2 T2 kap2 Q2 hk2 S2 G3 d2).1 _ rfl 294 (fun T3 kap3 Q3 hk3 S3 G4 d3 v3 => ⟨fun z => by omega, fun _ => ?_⟩)) (by omega)
    have hne2 : ¬ A * 48 + e (m + 1) = 0 := by omega
    obtain ⟨j1, j2, j3, j4⟩ := keep (m + 1) S3 (by omega) (by omega) (by omega)
    have j5 := (keep m S2 hA (by omega) (by omega))
    have j6 := (keep m S3 (by omega) (by omega) (by omega))
    have dm3 : yw_dn T3 (A * 48 + m) = 0 := by rw [j6.1, j5.1]; exact dm
    have em3 : yw_et T3 (A * 48 + m) = 0 := by rw [j6.2.2.2, j5.2.2.2]; exact em
    have S13 : yw_same A m (e m) s.1 T T3 := yw_same_t S2 S3 hc1 (by omega) (by omega) (by omega) (by omega)
    have hor : (∃ l, l < 16 ∧ yw_fn T3 (A * 48 + (m + 1)) = nI l) ∨ (yw_fn T3 (A * 48 + (m + 1)) = -1 ∧ ∃ l, l < 16 ∧ yw_fn T3 (A * 48 + e (m + 1)) = nI l) := by
      rw [j2]
      rcases v with i | k1
      · refine Or.inr ⟨(v2.1 i rfl).1, ?_⟩
        rcases hv with ⟨k2, z⟩ | ⟨k2, z⟩
        · cases z
        · obtain ⟨_, _, l16⟩ := lc16 G2.1 (G2.2.2.1 _ rfl k2 z)
          exact ⟨_, l16, (v3.2 k2 z).1⟩
      · obtain ⟨_, _, l16⟩ := lc16 G1.1 (G1.2.2.1 _ rfl k1 rfl)
        exact Or.inl ⟨_, l16, (v2.2 k1 rfl).1⟩
    have st := rsumS 0 A m T3 (by omega) P.1 k (by rw [j1]; exact d2) d3 hor (hJ T3 Q3.1 Q3.2.1 Q3.2.2.1)
    exact up (Ctx T3 _ S13 dm3 st) (by omega)
end
