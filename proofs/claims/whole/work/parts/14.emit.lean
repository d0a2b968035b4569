/-! ===== emission: the walk that writes the code of a piece that begins at node st ===== -/
/-- length, ops, nodes, targets, branch spots -/
abbrev em_S : Type := Nat × (Nat → Nat) × (Nat → Nat) × (Nat → Nat) × (Nat → Nat)
def em_R (K e lv sk : Nat → Nat) (st n : Nat) (Em : Nat → Sum Nat Nat → em_S → Prop) : Prop :=
  (∀ b d c a, Em b c a → Em (b + d) c a) ∧
  (∀ b m z oc nd tg bs, st ≤ m → m < n → K m = 0 → z < 113 → Em b (.inr m) (z + 1, tr_put oc z 1, tr_put nd z m, tg, bs) → Em (b + 1) (.inl m) (z, oc, nd, tg, bs)) ∧
  (∀ b m z oc nd tg bs, st ≤ m → m < n → K m = 1 → z < 113 → Em b (.inr m) (z + 1, tr_put oc z 0, tr_put nd z m, tg, bs) → Em (b + 1) (.inl m) (z, oc, nd, tg, bs)) ∧
  (∀ b m z oc nd tg bs, st ≤ m → m < n → K m = 2 → z < 113 → Em b (.inr m) (z + 1, tr_put oc z 2, tr_put nd z m, tg, bs) → Em (b + 1) (.inl m) (z, oc, nd, tg, bs)) ∧
  (∀ b m a, st ≤ m → m < n → 3 ≤ K m → Em b (.inl (m + 1)) a → Em (b + 1) (.inl m) a) ∧
  (∀ b m a, st ≤ m → m < n → 3 ≤ K m → K m ≠ 6 → Em b (.inl (e (m + 1))) a → Em (b + 1) (.inr (m + 1)) a) ∧
  (∀ b m z oc nd tg bs, st ≤ m → m < n → 3 ≤ K m → K m ≠ 6 → z < 113 → Em b (.inr m) (z + 1, tr_put oc z (if K m = 3 then sk m else 3), tr_put nd z m, tg, bs) → Em (b + 1) (.inr (e (m + 1))) (z, oc, nd, tg, bs)) ∧
  (∀ b m z oc nd tg bs, st ≤ m → m < n → K m = 6 → lv (e (m + 1)) ≠ 1 → z < 113 → Em b (.inr m) (z + 1, tr_put oc z 8, tr_put nd z m, tg, bs) → Em (b + 1) (.inr (m + 1)) (z, oc, nd, tg, bs)) ∧
  (∀ b m z oc nd tg bs, st ≤ m → m < n → K m = 6 → lv (e (m + 1)) = 1 → z < 113 → Em b (.inl (e (m + 1))) (z + 1, tr_put oc z 4, tr_put nd z m, tg, tr_put bs m z) → Em (b + 1) (.inr (m + 1)) (z, oc, nd, tg, bs)) ∧
  (∀ b m z y oc nd tg bs, st ≤ m → m < n → K m = 6 → z < 113 → bs m = y → y < z → Em b (.inl (e (e (m + 1)))) (z + 1, tr_put oc z 5, tr_put nd z m, tr_put tg y (z + 1), bs) → Em (b + 1) (.inr (e (m + 1))) (z, oc, nd, tg, bs)) ∧
  (∀ b m z y x oc nd tg bs, st ≤ m → m < n → K m = 6 → bs m = y → y < 113 → tg y = x + 1 → x < 113 → z ≤ 113 → Em b (.inr m) (z, oc, nd, tr_put tg x z, bs) → Em (b + 1) (.inr (e (e (m + 1)))) (z, oc, nd, tg, bs))
/-- kc counts the nodes of the piece in a subtree -/
def em_K (K e kc : Nat → Nat) (n : Nat) : Prop := ∀ m, m < n → 1 ≤ kc m ∧ (3 ≤ K m → K m ≠ 6 → kc (m + 1) + kc (e (m + 1)) + 1 ≤ kc m) ∧ (K m = 6 → kc (m + 1) + kc (e (m + 1)) + kc (e (e (m + 1))) + 1 ≤ kc m)
def em_ag (z : Nat) (oc nd tg oc' nd' tg' : Nat → Nat) : Prop := ∀ j, j < z → oc' j = oc j ∧ nd' j = nd j ∧ tg' j = tg j
theorem em_ag_t {z z' : Nat} {oc nd tg oc' nd' tg' oc2 nd2 tg2 : Nat → Nat} (h : em_ag z oc nd tg oc' nd' tg') (g : em_ag z' oc' nd' tg' oc2 nd2 tg2) (hz : z ≤ z') : em_ag z oc nd tg oc2 nd2 tg2 := fun j hj => by
  obtain ⟨a, b, c⟩ := h j hj
  obtain ⟨a', b', c'⟩ := g j (by omega)
  exact ⟨a'.trans a, b'.trans b, c'.trans c⟩
theorem em_put {z : Nat} (oc nd tg : Nat → Nat) (o m : Nat) : em_ag z oc nd tg (tr_put oc z o) (tr_put nd z m) tg := fun j hj => ⟨tr_put_n oc o (by omega), tr_put_n nd m (by omega), rfl⟩
section
variable {K e lv sk kc : Nat → Nat} {st n : Nat} {Em : Nat → Sum Nat Nat → em_S → Prop}
theorem em_la {lo hi d m a z : Nat} {oc nd tg oc' nd' tg' : Nat → Nat} (h : la_c K e lv sk oc nd tg d m a z) (g : em_ag hi oc nd tg oc' nd' tg') (hz : z ≤ hi) : la_c K e lv sk oc' nd' tg' d m a z :=
  la_keep 0 hi (fun j _ hj => ⟨(g j hj).1, (g j hj).2.1, fun _ => (g j hj).2.2⟩) d m a z (Nat.zero_le _) hz h
theorem em_run (T1 : tr_T K e n) (h48 : n ≤ 48) (T4 : ∀ m, m < n → K m ≤ 6) (Kc : em_K K e kc n) (Ru : em_R K e lv sk st n Em) : ∀ d m, st ≤ m → m < n → e m - m ≤ d → ∀ b z oc nd tg bs, z + 2 * kc m ≤ 113 →
    (∀ z' oc' nd' tg' bs', la_c K e lv sk oc' nd' tg' d m z z' → z' ≤ z + 2 * kc m → em_ag z oc nd tg oc' nd' tg' → (∀ p, p < m → bs' p = bs p) → Em b (.inr m) (z', oc', nd', tg', bs')) → Em (b + 4 * (e m - m)) (.inl m) (z, oc, nd, tg, bs) := by
  have up : ∀ {b d : Nat} {c : Sum Nat Nat} {a : em_S}, Em b c a → b ≤ d → Em d c a := fun {b d c a} h hd => by
    have := Ru.1 b (d - b) c a h
    rwa [Nat.add_sub_cancel' hd] at this
  obtain ⟨_, r0, r1, r2, rin, rnx, rop, rdead, rbr, rjm, rend⟩ := Ru
  intro d
  induction d with
  | zero =>
    intro m hs hm hd
    have := (T1 m hm).1
    omega
  | succ d ih =>
    intro m hs hm hd b z oc nd tg bs hz fin
    have h6 := T4 m hm
    have hlt := (T1 m hm).1
    obtain ⟨kc1, kc2, kc3⟩ := Kc m hm
    by_cases k0 : K m = 0
    · refine up (r0 b m z oc nd tg bs hs hm k0 (by omega) (fin _ _ _ _ _ ?_ (by omega) (em_put oc nd tg 1 m) (fun _ _ => rfl))) (by omega)
      exact ⟨fun _ => ⟨tr_put_s _ _ _, tr_put_s _ _ _, rfl⟩, fun k => by omega, fun k => by omega, fun k => by omega, fun k => by omega, fun k => by omega⟩
    by_cases k1 : K m = 1
    · refine up (r1 b m z oc nd tg bs hs hm k1 (by omega) (fin _ _ _ _ _ ?_ (by omega) (em_put oc nd tg 0 m) (fun _ _ => rfl))) (by omega)
      exact ⟨fun k => by omega, fun _ => ⟨tr_put_s _ _ _, tr_put_s _ _ _, rfl⟩, fun k => by omega, fun k => by omega, fun k => by omega, fun k => by omega⟩
    by_cases k2 : K m = 2
    · refine up (r2 b m z oc nd tg bs hs hm k2 (by omega) (fin _ _ _ _ _ ?_ (by omega) (em_put oc nd tg 2 m) (fun _ _ => rfl))) (by omega)
      exact ⟨fun k => by omega, fun k => by omega, fun _ => ⟨tr_put_s _ _ _, tr_put_s _ _ _, rfl⟩, fun k => by omega, fun k => by omega, fun k => by omega⟩
    have k3 : 3 ≤ K m := by omega
    by_cases k6 : K m = 6
    · have he := tr_k6 T1 hm k6
      have hk := kc3 k6
      by_cases q : lv (e (m + 1)) = 1
      · -- test, BRANCH, then, JUMP, else
        refine up (rin _ m _ hs hm k3 (ih (m + 1) (by omega) (by omega) (by omega) (b + 4 * (e (e (m + 1)) - e (m + 1)) + 4 * (e (e (e (m + 1))) - e (e (m + 1))) + 3) z oc nd tg bs (by omega) (fun z1 oc1 nd1 tg1 bs1 l1 u1 g1 c1 => ?_))) (by omega)
        have lt1 := la_lt _ _ _ _ l1
        refine up (rbr _ m z1 oc1 nd1 tg1 bs1 hs hm k6 q (by omega) (ih (e (m + 1)) (by omega) (by omega) (by omega) (b + 4 * (e (e (e (m + 1))) - e (e (m + 1))) + 2) (z1 + 1) _ _ _ _ (by omega) (fun z2 oc2 nd2 tg2 bs2 l2 u2 g2 c2 => ?_))) (by omega)
        have lt2 := la_lt _ _ _ _ l2
        have hb2 : bs2 m = z1 := by rw [c2 m (by omega), tr_put_s]
        refine up (rjm _ m z2 z1 oc2 nd2 tg2 bs2 hs hm k6 (by omega) hb2 (by omega) (ih (e (e (m + 1))) (by omega) (by omega) (by omega) (b + 1) (z2 + 1) _ _ _ _ (by omega) (fun z3 oc3 nd3 tg3 bs3 l3 u3 g3 c3 => ?_))) (by omega)
        have lt3 := la_lt _ _ _ _ l3
        have hb3 : bs3 m = z1 := by rw [c3 m (by omega)]; exact hb2
        have ht3 : tg3 z1 = z2 + 1 := by rw [(g3 z1 (by omega)).2.2, tr_put_s]
        refine rend b m z3 z1 z2 oc3 nd3 tg3 bs3 hs hm k6 hb3 (by omega) ht3 (by omega) (by omega) (fin z3 oc3 nd3 (tr_put tg3 z2 z3) bs3 ?_ (by omega) ?_ (fun p hp => ?_))
        · refine ⟨fun k => by omega, fun k => by omega, fun k => by omega, fun _ k => absurd k6 k, fun _ _ => ?_, fun _ k => absurd q k⟩
          -- what stood at each time stands at the end
          have a3 : ∀ j, j < z1 → oc3 j = oc1 j ∧ nd3 j = nd1 j ∧ tr_put tg3 z2 z3 j = tg1 j := fun j hj => by
            have x3 := g3 j (by omega)
            have x2 := g2 j (by omega)
            refine ⟨?_, ?_, ?_⟩
            · rw [x3.1, tr_put_n _ _ (by omega), x2.1, tr_put_n _ _ (by omega)]
            · rw [x3.2.1, tr_put_n _ _ (by omega), x2.2.1, tr_put_n _ _ (by omega)]
            · rw [tr_put_n _ _ (by omega), x3.2.2, tr_put_n _ _ (by omega), x2.2.2]
          have a4 : ∀ j, z1 < j → j < z2 → oc3 j = oc2 j ∧ nd3 j = nd2 j ∧ tr_put tg3 z2 z3 j = tg2 j := fun j hj hj' => by
            have x3 := g3 j (by omega)
            refine ⟨?_, ?_, ?_⟩
            · rw [x3.1, tr_put_n _ _ (by omega)]
            · rw [x3.2.1, tr_put_n _ _ (by omega)]
            · rw [tr_put_n _ _ (by omega), x3.2.2, tr_put_n _ _ (by omega)]
          refine ⟨z1, z2, ?_, ?_, ?_, ?_, ?_, ?_, ?_, ?_, tr_put_s _ _ _⟩
          · exact la_keep 0 z1 (fun j _ hj => ⟨(a3 j hj).1, (a3 j hj).2.1, fun _ => (a3 j hj).2.2⟩) d _ _ _ (Nat.zero_le _) (Nat.le_refl _) l1
          · rw [(g3 z1 (by omega)).1, tr_put_n _ _ (by omega), (g2 z1 (by omega)).1, tr_put_s]
          · rw [(g3 z1 (by omega)).2.1, tr_put_n _ _ (by omega), (g2 z1 (by omega)).2.1, tr_put_s]
          · exact la_keep (z1 + 1) z2 (fun j h1 hj => ⟨(a4 j h1 hj).1, (a4 j h1 hj).2.1, fun _ => (a4 j h1 hj).2.2⟩) d _ _ _ (Nat.le_refl _) (Nat.le_refl _) l2
          · rw [(g3 z2 (by omega)).1, tr_put_s]
          · rw [(g3 z2 (by omega)).2.1, tr_put_s]
          · rw [tr_put_n _ _ (by omega)]; exact ht3
          · exact la_keep (z2 + 1) z3 (fun j h1 hj => ⟨rfl, rfl, fun _ => tr_put_n _ _ (by omega)⟩) d _ _ _ (Nat.le_refl _) (Nat.le_refl _) l3
        · intro j hj
          have x1 := g1 j hj
          have x2 := g2 j (by omega)
          have x3 := g3 j (by omega)
          refine ⟨?_, ?_, ?_⟩
          · rw [x3.1, tr_put_n _ _ (by omega), x2.1, tr_put_n _ _ (by omega), x1.1]
          · rw [x3.2.1, tr_put_n _ _ (by omega), x2.2.1, tr_put_n _ _ (by omega), x1.2.1]
          · rw [tr_put_n _ _ (by omega), x3.2.2, tr_put_n _ _ (by omega), x2.2.2, x1.2.2]
        · rw [c3 p (by omega), c2 p (by omega), tr_put_n _ _ (by omega), c1 p (by omega)]
      · -- test, STICK
        refine up (rin _ m _ hs hm k3 (ih (m + 1) (by omega) (by omega) (by omega) (b + 1) z oc nd tg bs (by omega) (fun z1 oc1 nd1 tg1 bs1 l1 u1 g1 c1 => ?_))) (by omega)
        have lt1 := la_lt _ _ _ _ l1
        refine rdead b m z1 oc1 nd1 tg1 bs1 hs hm k6 q (by omega) (fin _ _ _ _ _ ?_ (by omega) (em_ag_t g1 (em_put oc1 nd1 tg1 8 m) (by omega)) (fun p hp => c1 p (by omega)))
        exact ⟨fun k => by omega, fun k => by omega, fun k => by omega, fun _ k => absurd k6 k, fun _ k => absurd k q, fun _ _ => ⟨z1, la_keep 0 z1 (fun j _ hj => ⟨tr_put_n _ _ (by omega), tr_put_n _ _ (by omega), fun _ => rfl⟩) d _ _ _ (Nat.zero_le _) (Nat.le_refl _) l1, tr_put_s _ _ _, tr_put_s _ _ _, rfl⟩⟩
    · have he := tr_k3 T1 hm k3 k6
      have hk := kc2 k3 k6
      refine up (rin _ m _ hs hm k3 (ih (m + 1) (by omega) (by omega) (by omega) (b + 4 * (e (e (m + 1)) - e (m + 1)) + 2) z oc nd tg bs (by omega) (fun z1 oc1 nd1 tg1 bs1 l1 u1 g1 c1 => ?_))) (by omega)
      have lt1 := la_lt _ _ _ _ l1
      refine up (rnx _ m _ hs hm k3 k6 (ih (e (m + 1)) (by omega) (by omega) (by omega) (b + 1) z1 oc1 nd1 tg1 bs1 (by omega) (fun z2 oc2 nd2 tg2 bs2 l2 u2 g2 c2 => ?_))) (by omega)
      have lt2 := la_lt _ _ _ _ l2
      refine rop b m z2 oc2 nd2 tg2 bs2 hs hm k3 k6 (by omega) (fin _ _ _ _ _ ?_ (by omega) (em_ag_t (em_ag_t g1 g2 (by omega)) (em_put oc2 nd2 tg2 _ m) (by omega)) (fun p hp => (c2 p (by omega)).trans (c1 p (by omega))))
      refine ⟨fun k => by omega, fun k => by omega, fun k => by omega, fun _ _ => ⟨z1, z2, ?_, ?_, tr_put_s _ _ _, tr_put_s _ _ _, rfl⟩, fun k => absurd k k6, fun k => absurd k k6⟩
      · exact la_keep 0 z1 (fun j _ hj => ⟨(tr_put_n _ _ (by omega)).trans (g2 j hj).1, (tr_put_n _ _ (by omega)).trans (g2 j hj).2.1, fun _ => (g2 j hj).2.2⟩) d _ _ _ (Nat.zero_le _) (Nat.le_refl _) l1
      · exact la_keep 0 z2 (fun j _ hj => ⟨tr_put_n _ _ (by omega), tr_put_n _ _ (by omega), fun _ => rfl⟩) d _ _ _ (Nat.zero_le _) (Nat.le_refl _) l2
end
