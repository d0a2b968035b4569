/-! ===== a machine with frames and a stack, by its rules alone; first the walk over the tree ===== -/
/-- state of the evaluator, frame, bindings by frame, returns by frame, height, stack -/
abbrev am_S : Type := ev_S × Nat × (Nat → Nat → ev_V) × (Nat → Nat) × Nat × (Nat → ev_V)
def am_pw (W : Nat → ev_V) (w : Nat) (v : ev_V) : Nat → ev_V := fun j => if j = w then v else W j
def am_pf (F : Nat → Nat → ev_V) (f : Nat) (g : Nat → ev_V) : Nat → Nat → ev_V := fun j => if j = f then g else F j
theorem am_pw_s (W : Nat → ev_V) (w : Nat) (v : ev_V) : am_pw W w v w = v := if_pos rfl
theorem am_pw_n (W : Nat → ev_V) {w j : Nat} (v : ev_V) (h : j ≠ w) : am_pw W w v j = W j := if_neg h
theorem am_pf_s (F : Nat → Nat → ev_V) (f : Nat) (g : Nat → ev_V) : am_pf F f g f = g := if_pos rfl
theorem am_pf_n (F : Nat → Nat → ev_V) {f j : Nat} (g : Nat → ev_V) (h : j ≠ f) : am_pf F f g j = F j := if_neg h
/-- the rules: I b c a: with b steps to spend, from control c (begin a node, a node done) and state a, all goes well; J x s: an end x in state s is well -/
def am_R (K e N Lv ix : Nat → Nat) (op bm : Nat → Int32) (cl cm n : Nat) (I : Nat → Sum Nat Nat → am_S → Prop) (J : Nat × Nat → ev_S → Prop) : Prop :=
  (∀ b d c a, I b c a → I (b + d) c a) ∧
  (∀ b m s f F R w W, m < n → K m = 0 → f ≤ 48 → w < 294 → I b (.inr m) (s, f, F, R, w + 1, am_pw W w (F f (ix m))) → I (b + 1) (.inl m) (s, f, F, R, w, W)) ∧
  (∀ b m s f F R w W, m < n → K m = 1 → f ≤ 48 → w < 294 → I b (.inr m) (s, f, F, R, w + 1, am_pw W w (.inl (op m))) → I (b + 1) (.inl m) (s, f, F, R, w, W)) ∧
  (∀ b m (s : ev_S) f F R w W, m < n → K m = 2 → f ≤ 48 → w < 294 → s.2.1 = cm → J (5, m) s → I (b + 2) (.inl m) (s, f, F, R, w, W)) ∧
  (∀ b m (s : ev_S) f F R w W, m < n → K m = 2 → f ≤ 48 → w < 294 → ev_W K N n cl cm s → s.2.1 ≠ cm → I b (.inr m) (ev_clo m (F f) s, f, F, R, w + 1, am_pw W w (.inr s.2.1)) → I (b + 1) (.inl m) (s, f, F, R, w, W)) ∧
  (∀ b m s f F R w W, m < n → 3 ≤ K m → I b (.inl (m + 1)) (s, f, F, R, w, W) → I (b + 1) (.inl m) (s, f, F, R, w, W)) ∧
  (∀ b m s f F R w W, m < n → 3 ≤ K m → K m ≠ 6 → I b (.inl (e (m + 1))) (s, f, F, R, w, W) → I (b + 1) (.inr (m + 1)) (s, f, F, R, w, W)) ∧
  (∀ b m s f F R w W k, m < n → K m = 6 → w < 294 → ev_W K N n cl cm s → k < s.2.1 → J (3, m) s → I (b + 2) (.inr (m + 1)) (s, f, F, R, w + 1, am_pw W w (.inr k))) ∧
  (∀ b m s f F R w W i, m < n → K m = 6 → w < 294 → I b (.inl (if i = 0 then e (m + 1) else e (e (m + 1)))) (s, f, F, R, w, W) → I (b + 1) (.inr (m + 1)) (s, f, F, R, w + 1, am_pw W w (.inl i))) ∧
  (∀ b m s f F R w W (i : Int32), m < n → K m = 6 → I b (.inr m) (s, f, F, R, w, W) → I (b + 1) (.inr (if i = 0 then e (m + 1) else e (e (m + 1)))) (s, f, F, R, w, W)) ∧
  (∀ b m s f F R w W i j, m < n → (K m = 4 ∨ K m = 5) → w + 1 < 294 → I b (.inr m) (s, f, F, R, w + 1, am_pw W w (.inl (if K m = 4 then i + j else i - j))) → I (b + 1) (.inr (e (m + 1))) (s, f, F, R, w + 2, am_pw (am_pw W w (.inl i)) (w + 1) (.inl j))) ∧
  (∀ b m s f F R w W v x, m < n → (K m = 4 ∨ K m = 5) → w + 1 < 294 → ev_W K N n cl cm s → ev_ok s.2.1 v → ev_ok s.2.1 x → ((∃ k, v = .inr k) ∨ (∃ k, x = .inr k)) → J (3, m) s → I (b + 2) (.inr (e (m + 1))) (s, f, F, R, w + 2, am_pw (am_pw W w v) (w + 1) x)) ∧
  (∀ b m s f F R w W i x, m < n → K m = 3 → w + 1 < 294 → J (3, m) s → I (b + 2) (.inr (e (m + 1))) (s, f, F, R, w + 2, am_pw (am_pw W w (.inl i)) (w + 1) x)) ∧
  (∀ b m (s : ev_S) f F R w W k x, m < n → K m = 3 → w + 1 < 294 → ev_W K N n cl cm s → k < s.2.1 → s.1 = cl → J (4, m) s → I (b + 2) (.inr (e (m + 1))) (s, f, F, R, w + 2, am_pw (am_pw W w (.inr k)) (w + 1) x)) ∧
  (∀ b m (s : ev_S) f F R w W k x, m < n → K m = 3 → w + 1 < 294 → f < 48 → ev_W K N n cl cm s → k < s.2.1 → ev_ok s.2.1 x → s.1 ≠ cl → I b (.inl (s.2.2.1 k + 1)) (ev_call bm m k s, f + 1, am_pf F (f + 1) (ev_env N k x s), tr_put R (f + 1) m, w, W) → I (b + 1) (.inr (e (m + 1))) (s, f, F, R, w + 2, am_pw (am_pw W w (.inr k)) (w + 1) x)) ∧
  (∀ b m s f F R w W p g, m < n → p < n → K p = 2 → f < 48 → I b (.inr m) (s, f, F, R, w, W) → I (b + 1) (.inr (p + 1)) (s, f + 1, am_pf F (f + 1) g, tr_put R (f + 1) m, w, W))
/-- the levels of children -/
def tr_L (K e Lv : Nat → Nat) (n : Nat) : Prop := ∀ p, p < n → Lv p ≤ 5 ∧ (K p = 2 → Lv (p + 1) = 0) ∧ (3 ≤ K p → Lv (p + 1) = Lv p + 1 ∧ Lv (e (p + 1)) = Lv p + 1 ∧ (K p = 6 → Lv (e (e (p + 1))) = Lv p + 1))
/-- what the walk from 'begin m' to 'm done' may spend -/
def am_c (e : Nat → Nat) (m : Nat) (s s' : ev_S) : Nat := 3 * (e m - m) + 145 * (s'.1 - s.1)
def am_M (e N Lv : Nat → Nat) (I : Nat → Sum Nat Nat → am_S → Prop) (J : Nat × Nat → ev_S → Prop) (env : Nat → ev_V) (m : Nat) (s : ev_S) (r : ev_R) (s' : ev_S) : Prop :=
  ∀ f F R w W, f ≤ s.1 → w ≤ 6 * f + Lv m → F f = env →
    (∀ v, r = .inl v → ∀ b, I b (.inr m) (s', f, F, R, w + 1, am_pw W w v) → I (b + am_c e m s s') (.inl m) (s, f, F, R, w, W)) ∧
    (∀ x, r = .inr x → J x s' → I (2 + am_c e m s s') (.inl m) (s, f, F, R, w, W))
section
variable {K e N Lv ix : Nat → Nat} {op bm : Nat → Int32} {cl cm n : Nat} {I : Nat → Sum Nat Nat → am_S → Prop} {J : Nat × Nat → ev_S → Prop}
theorem am_up (Ru : am_R K e N Lv ix op bm cl cm n I J) {b d : Nat} {c : Sum Nat Nat} {a : am_S} (h : I b c a) (hd : b ≤ d) : I d c a := by
  have := Ru.1 b (d - b) c a h
  rwa [Nat.add_sub_cancel' hd] at this
theorem am_run (T : ev_T K e N ix n) (TL : tr_L K e Lv n) (hcl : cl ≤ 48) (Ru : am_R K e N Lv ix op bm cl cm n I J) : ∀ f env m s, ev_Pre K e N n cl cm f env m s → am_M e N Lv I J env m s (ev_al K e N ix op bm cl cm f env m s).1 (ev_al K e N ix op bm cl cm f env m s).2 := by
  intro f env m s P
  have up := fun {b d : Nat} {c : Sum Nat Nat} {a : am_S} (h : I b c a) (hd : b ≤ d) => am_up Ru h hd
  obtain ⟨_, rvar, rnum, rlamF, rlam, rin, r1, rifS, rif, rif1, rsum, rsumS, rappS, rappC, rapp, rret⟩ := Ru
  have T1 := T.1
  have T4 := T.2.2.2.1
  have nl : ∀ {P : Prop} {v : ev_V} {x : Nat × Nat}, (Sum.inl v : ev_R) = .inr x → P := fun e => nomatch e
  have nr : ∀ {P : Prop} {v : ev_V} {x : Nat × Nat}, (Sum.inr x : ev_R) = .inl v → P := fun e => nomatch e
  refine (ev_ind2 K e N ix op bm cl cm n T (fun _ env m s r s' => am_M e N Lv I J env m s r s') ?_ ?_ ?_ ?_ ?_ ?_ ?_ ?_ ?_ ?_ ?_ ?_ ?_ f env m s P).1
  · intro f env m s P k fr F R w W h1 h2 h3
    have hs := P.2.2.1.1
    have hl := (TL m P.1).1
    have hz := tr_k0 T1 P.1 (by omega)
    refine ⟨fun v hv b hb => ?_, fun x h => nl h⟩
    cases hv
    rw [← h3] at hb
    exact up (rvar b m s fr F R w W P.1 k (by omega) (by omega) hb) (by unfold am_c; omega)
  · intro f env m s P k fr F R w W h1 h2 h3
    have hs := P.2.2.1.1
    have hl := (TL m P.1).1
    have hz := tr_k0 T1 P.1 (by omega)
    refine ⟨fun v hv b hb => ?_, fun x h => nl h⟩
    cases hv
    exact up (rnum b m s fr F R w W P.1 k (by omega) (by omega) hb) (by unfold am_c; omega)
  · intro f env m s P k hc fr F R w W h1 h2 h3
    have hs := P.2.2.1.1
    have hl := (TL m P.1).1
    refine ⟨fun v h => nr h, fun x hx hJ => ?_⟩
    cases hx
    exact up (rlamF 0 m s fr F R w W P.1 k (by omega) (by omega) hc hJ) (by omega)
  · intro f env m s P k hc fr F R w W h1 h2 h3
    have hs := P.2.2.1.1
    have hl := (TL m P.1).1
    have hz := (T1 m P.1).1
    refine ⟨fun v hv b hb => ?_, fun x h => nl h⟩
    cases hv
    rw [← h3] at hb
    exact up (rlam b m s fr F R w W P.1 k (by omega) (by omega) P.2.2.1 hc hb) (by unfold am_c; omega)
  · intro f env m s x s1 P k A G H fr F R w W h1 h2 h3
    have hL := ((TL m P.1).2.2 k).1
    have hz : e (m + 1) ≤ e m ∧ m + 1 < e (m + 1) := by
      have h6 := T4 m P.1
      by_cases k6 : K m = 6
      · have := tr_k6 T1 P.1 k6; omega
      · have := tr_k3 T1 P.1 k k6; omega
    refine ⟨fun v h => nr h, fun y hy hJ => ?_⟩
    have := (H fr F R w W h1 (by omega) h3).2 y hy hJ
    exact up (rin _ m s fr F R w W P.1 k this) (by unfold am_c; omega)
  · intro f env m s k s1 P k6 A G H fr F R w W h1 h2 h3
    have hs := P.2.2.1.1
    have hl := (TL m P.1).1
    have hL := ((TL m P.1).2.2 (by omega)).1
    have hz := tr_k6 T1 P.1 k6
    refine ⟨fun v h => nr h, fun y hy hJ => ?_⟩
    cases hy
    have a1 := rifS 0 m s1 fr F R w W k P.1 k6 (by omega) G.1 (G.2.2.1 _ rfl k rfl) hJ
    have a2 := (H fr F R w W h1 (by omega) h3).1 _ rfl _ a1
    exact up (rin _ m s fr F R w W P.1 (by omega) a2) (by unfold am_c; omega)
  · intro f env m s i s1 r s2 P k6 A G B G2 H H2 fr F R w W h1 h2 h3
    have hs := P.2.2.1.1
    have hl := (TL m P.1).1
    have hL := (TL m P.1).2.2 (by omega)
    have hz := tr_k6 T1 P.1 k6
    have hc1 := G.2.1.1
    have hc2 := G2.2.1.1
    have hLb : Lv (if i = 0 then e (m + 1) else e (e (m + 1))) = Lv m + 1 := by
      by_cases z : i = 0
      · rw [if_pos z]; exact hL.2.1
      · rw [if_neg z]; exact hL.2.2 k6
    have hcost : am_c e (if i = 0 then e (m + 1) else e (e (m + 1))) s1 s2 + am_c e (m + 1) s s1 + 3 ≤ am_c e m s s2 := by
      unfold am_c
      by_cases z : i = 0
      · rw [if_pos z]; omega
      · rw [if_neg z]; omega
    have I2 := H2 fr F R w W (by omega) (by omega) h3
    have I1 := (H fr F R w W h1 (by omega) h3).1 _ rfl
    refine ⟨fun v hv b hb => ?_, fun y hy hJ => ?_⟩
    · have a1 := rif1 b m s2 fr F R (w + 1) (am_pw W w v) i P.1 k6 hb
      have a2 := I2.1 v hv _ a1
      have a3 := rif _ m s1 fr F R w W i P.1 k6 (by omega) a2
      have a4 := I1 _ a3
      exact up (rin _ m s fr F R w W P.1 (by omega) a4) (by omega)
    · have a2 := I2.2 y hy hJ
      have a3 := rif _ m s1 fr F R w W i P.1 k6 (by omega) a2
      have a4 := I1 _ a3
      exact up (rin _ m s fr F R w W P.1 (by omega) a4) (by omega)
  · intro f env m s v s1 x s2 P k k6 A G B G2 H H2 fr F R w W h1 h2 h3
    have hs := P.2.2.1.1
    have hl := (TL m P.1).1
    have hL := (TL m P.1).2.2 k
    have hz := tr_k3 T1 P.1 k k6
    have hc1 := G.2.1.1
    have hc2 := G2.2.1.1
    refine ⟨fun v h => nr h, fun y hy hJ => ?_⟩
    have a2 := (H2 fr F R (w + 1) (am_pw W w v) (by omega) (by omega) h3).2 y hy hJ
    have a3 := r1 _ m s1 fr F R (w + 1) (am_pw W w v) P.1 k k6 a2
    have a4 := (H fr F R w W h1 (by omega) h3).1 _ rfl _ a3
    exact up (rin _ m s fr F R w W P.1 k a4) (by unfold am_c; omega)
  · intro f env m s i s1 x s2 P k A G B G2 H H2 fr F R w W h1 h2 h3
    have hs := P.2.2.1.1
    have hl := (TL m P.1).1
    have hL := (TL m P.1).2.2 (by omega)
    have hz := tr_k3 T1 P.1 (by omega) (by omega)
    have hl1 := (TL (m + 1) hz.1).1
    have hc1 := G.2.1.1
    have hc2 := G2.2.1.1
    refine ⟨fun v h => nr h, fun y hy hJ => ?_⟩
    cases hy
    have a1 := rappS 0 m s2 fr F R w W i x P.1 k (by omega) hJ
    have a2 := (H2 fr F R (w + 1) (am_pw W w (.inl i)) (by omega) (by omega) h3).1 _ rfl _ a1
    have a3 := r1 _ m s1 fr F R (w + 1) (am_pw W w (.inl i)) P.1 (by omega) (by omega) a2
    have a4 := (H fr F R w W h1 (by omega) h3).1 _ rfl _ a3
    exact up (rin _ m s fr F R w W P.1 (by omega) a4) (by unfold am_c; omega)
  · intro f env m s j s1 x s2 P k hc A G B G2 H H2 fr F R w W h1 h2 h3
    have hs := P.2.2.1.1
    have hl := (TL m P.1).1
    have hL := (TL m P.1).2.2 (by omega)
    have hz := tr_k3 T1 P.1 (by omega) (by omega)
    have hl1 := (TL (m + 1) hz.1).1
    have hc1 := G.2.1.1
    have hc2 := G2.2.1.1
    have hj : j < s2.2.1 := Nat.lt_of_lt_of_le (G.2.2.1 _ rfl j rfl) G2.2.1.2.1
    refine ⟨fun v h => nr h, fun y hy hJ => ?_⟩
    cases hy
    have a1 := rappC 0 m s2 fr F R w W j x P.1 k (by omega) G2.1 hj hc hJ
    have a2 := (H2 fr F R (w + 1) (am_pw W w (.inr j)) (by omega) (by omega) h3).1 _ rfl _ a1
    have a3 := r1 _ m s1 fr F R (w + 1) (am_pw W w (.inr j)) P.1 (by omega) (by omega) a2
    have a4 := (H fr F R w W h1 (by omega) h3).1 _ rfl _ a3
    exact up (rin _ m s fr F R w W P.1 (by omega) a4) (by unfold am_c; omega)
  · intro f env m s j s1 x s2 r s3 P k hc A G B G2 C G3 H H2 H3 fr F R w W h1 h2 h3
    have hs := P.2.2.1.1
    have hl := (TL m P.1).1
    have hL := (TL m P.1).2.2 (by omega)
    have hz := tr_k3 T1 P.1 (by omega) (by omega)
    have hl1 := (TL (m + 1) hz.1).1
    have hc1 := G.2.1.1
    have hc2 := G2.2.1.1
    have hw2 := G2.1.1
    have hc3 : s2.1 + 1 ≤ s3.1 := G3.2.1.1
    have hj : j < s2.2.1 := Nat.lt_of_lt_of_le (G.2.2.1 _ rfl j rfl) G2.2.1.2.1
    obtain ⟨b1, b2, _⟩ := G2.1.2.2 j hj
    have hb := tr_k2 T1 b1 b2
    have hLb := (TL _ b1).2.1 b2
    have h48 := T.2.2.1
    have hcost : am_c e (s2.2.2.1 j + 1) (ev_call bm m j s2) s3 + am_c e (e (m + 1)) s1 s2 + am_c e (m + 1) s s1 + 4 ≤ am_c e m s s3 := by
      show 3 * (e (s2.2.2.1 j + 1) - (s2.2.2.1 j + 1)) + 145 * (s3.1 - (s2.1 + 1)) + (3 * (e (e (m + 1)) - e (m + 1)) + 145 * (s2.1 - s1.1)) + (3 * (e (m + 1) - (m + 1)) + 145 * (s1.1 - s.1)) + 4 ≤ 3 * (e m - m) + 145 * (s3.1 - s.1)
      omega
    have I3 := H3 (fr + 1) (am_pf F (fr + 1) (ev_env N j x s2)) (tr_put R (fr + 1) m) w W (show fr + 1 ≤ s2.1 + 1 by omega) (by omega) (am_pf_s _ _ _)
    have I2 := (H2 fr F R (w + 1) (am_pw W w (.inr j)) (by omega) (by omega) h3).1 _ rfl
    have I1 := (H fr F R w W h1 (by omega) h3).1 _ rfl
    refine ⟨fun v hv b hb => ?_, fun y hy hJ => ?_⟩
    · have a0 := rret b m s3 fr F R (w + 1) (am_pw W w v) (s2.2.2.1 j) (ev_env N j x s2) P.1 b1 b2 (by omega) hb
      have a1 := I3.1 v hv _ a0
      have a2 := rapp _ m s2 fr F R w W j x P.1 k (by omega) (by omega) G2.1 hj (G2.2.2.1 _ rfl) hc a1
      have a3 := I2 _ a2
      have a4 := r1 _ m s1 fr F R (w + 1) (am_pw W w (.inr j)) P.1 (by omega) (by omega) a3
      have a5 := I1 _ a4
      exact up (rin _ m s fr F R w W P.1 (by omega) a5) (by omega)
    · have a1 := I3.2 y hy hJ
      have a2 := rapp _ m s2 fr F R w W j x P.1 k (by omega) (by omega) G2.1 hj (G2.2.2.1 _ rfl) hc a1
      have a3 := I2 _ a2
      have a4 := r1 _ m s1 fr F R (w + 1) (am_pw W w (.inr j)) P.1 (by omega) (by omega) a3
      have a5 := I1 _ a4
      exact up (rin _ m s fr F R w W P.1 (by omega) a5) (by omega)
  · intro f env m s i s1 j s2 P k A G B G2 H H2 fr F R w W h1 h2 h3
    have hs := P.2.2.1.1
    have hl := (TL m P.1).1
    have hL := (TL m P.1).2.2 (by omega)
    have hz := tr_k3 T1 P.1 (by omega) (by omega)
    have hl1 := (TL (m + 1) hz.1).1
    have hc1 := G.2.1.1
    have hc2 := G2.2.1.1
    refine ⟨fun v hv b hb => ?_, fun x h => nl h⟩
    cases hv
    have a1 := rsum b m s2 fr F R w W i j P.1 k (by omega) hb
    have a2 := (H2 fr F R (w + 1) (am_pw W w (.inl i)) (by omega) (by omega) h3).1 _ rfl _ a1
    have a3 := r1 _ m s1 fr F R (w + 1) (am_pw W w (.inl i)) P.1 (by omega) (by omega) a2
    have a4 := (H fr F R w W h1 (by omega) h3).1 _ rfl _ a3
    exact up (rin _ m s fr F R w W P.1 (by omega) a4) (by unfold am_c; omega)
  · intro f env m s v s1 x s2 P k hv A G B G2 H H2 fr F R w W h1 h2 h3
    have hs := P.2.2.1.1
    have hl := (TL m P.1).1
    have hL := (TL m P.1).2.2 (by omega)
    have hz := tr_k3 T1 P.1 (by omega) (by omega)
    have hl1 := (TL (m + 1) hz.1).1
    have hc1 := G.2.1.1
    have hc2 := G2.2.1.1
    refine ⟨fun v h => nr h, fun y hy hJ => ?_⟩
    cases hy
    have a1 := rsumS 0 m s2 fr F R w W v x P.1 k (by omega) G2.1 (ev_ok_up (G.2.2.1 _ rfl) G2.2.1.2.1) (G2.2.2.1 _ rfl) hv hJ
    have a2 := (H2 fr F R (w + 1) (am_pw W w v) (by omega) (by omega) h3).1 _ rfl _ a1
    have a3 := r1 _ m s1 fr F R (w + 1) (am_pw W w v) P.1 (by omega) (by omega) a2
    have a4 := (H fr F R w W h1 (by omega) h3).1 _ rfl _ a3
    exact up (rin _ m s fr F R w W P.1 (by omega) a4) (by unfold am_c; omega)
end
