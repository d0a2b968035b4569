/-! ===== the evaluator: a value is a number or the index of a closure ===== -/
abbrev ev_V : Type := Sum Int32 Nat
/-- calls, closures, the LAM node of each closure, its bindings by nest, the called masks by node -/
abbrev ev_S : Type := Nat × Nat × (Nat → Nat) × (Nat → Nat → ev_V) × (Nat → Int32)
/-- a value, or an ending and its node -/
abbrev ev_R : Type := Sum ev_V (Nat × Nat)
def ev_then (r : ev_R × ev_S) (g : ev_V → ev_S → ev_R × ev_S) : ev_R × ev_S :=
  match r with
  | (.inl v, s) => g v s
  | (.inr x, s) => (.inr x, s)
def ev_cs (v : ev_V) (g : Int32 → ev_R × ev_S) (h : Nat → ev_R × ev_S) : ev_R × ev_S :=
  match v with
  | .inl i => g i
  | .inr k => h k
theorem ev_then_l (v : ev_V) (s : ev_S) (g : ev_V → ev_S → ev_R × ev_S) : ev_then (.inl v, s) g = g v s := rfl
theorem ev_then_r (x : Nat × Nat) (s : ev_S) (g : ev_V → ev_S → ev_R × ev_S) : ev_then (.inr x, s) g = (.inr x, s) := rfl
theorem ev_cs_l (i : Int32) (g : Int32 → ev_R × ev_S) (h : Nat → ev_R × ev_S) : ev_cs (.inl i) g h = g i := rfl
theorem ev_cs_r (k : Nat) (g : Int32 → ev_R × ev_S) (h : Nat → ev_R × ev_S) : ev_cs (.inr k) g h = h k := rfl
def ev_clo (n : Nat) (env : Nat → ev_V) (s : ev_S) : ev_S := (s.1, s.2.1 + 1, (fun j => if j = s.2.1 then n else s.2.2.1 j), (fun j => if j = s.2.1 then env else s.2.2.2.1 j), s.2.2.2.2)
def ev_call (bm : Nat → Int32) (n k : Nat) (s : ev_S) : ev_S := (s.1 + 1, s.2.1, s.2.2.1, s.2.2.2.1, (fun j => if j = n then s.2.2.2.2 n ||| bm (s.2.2.1 k) else s.2.2.2.2 j))
def ev_env (N : Nat → Nat) (k : Nat) (w : ev_V) (s : ev_S) : Nat → ev_V := fun j => if j = N (s.2.2.1 k) then w else s.2.2.2.1 k j
/-- K kinds, e ends, N nests, ix the binding of a VAR, op the ints, bm the mask of a LAM node, cl and cm the limits -/
def ev_al (K e N ix : Nat → Nat) (op bm : Nat → Int32) (cl cm : Nat) : Nat → (Nat → ev_V) → Nat → ev_S → ev_R × ev_S
  | 0, _, _, s => (.inr (0, 0), s)
  | f + 1, env, n, s =>
    if K n = 0 then (.inl (env (ix n)), s)
    else if K n = 1 then (.inl (.inl (op n)), s)
    else if K n = 2 then (if s.2.1 = cm then (.inr (5, n), s) else (.inl (.inr s.2.1), ev_clo n env s))
    else ev_then (ev_al K e N ix op bm cl cm f env (n + 1) s) (fun v s1 =>
      if K n = 6 then ev_cs v (fun i => ev_al K e N ix op bm cl cm f env (if i = 0 then e (n + 1) else e (e (n + 1))) s1) (fun _ => (.inr (3, n), s1))
      else ev_then (ev_al K e N ix op bm cl cm f env (e (n + 1)) s1) (fun w s2 =>
        if K n = 3 then ev_cs v (fun _ => (.inr (3, n), s2)) (fun k => if s2.1 = cl then (.inr (4, n), s2) else ev_al K e N ix op bm cl cm f (ev_env N k w s2) (s2.2.2.1 k + 1) (ev_call bm n k s2))
        else ev_cs v (fun i => ev_cs w (fun j => (.inl (.inl (if K n = 4 then i + j else i - j)), s2)) (fun _ => (.inr (3, n), s2))) (fun _ => (.inr (3, n), s2))))
section
variable (K e N ix : Nat → Nat) (op bm : Nat → Int32) (cl cm : Nat)
theorem ev_var {f n : Nat} {env : Nat → ev_V} {s : ev_S} (h : K n = 0) : ev_al K e N ix op bm cl cm (f + 1) env n s = (.inl (env (ix n)), s) := by
  rw [ev_al, if_pos h]
theorem ev_num {f n : Nat} {env : Nat → ev_V} {s : ev_S} (h : K n = 1) : ev_al K e N ix op bm cl cm (f + 1) env n s = (.inl (.inl (op n)), s) := by
  rw [ev_al, if_neg (by omega), if_pos h]
theorem ev_lamF {f n : Nat} {env : Nat → ev_V} {s : ev_S} (h : K n = 2) (hc : s.2.1 = cm) : ev_al K e N ix op bm cl cm (f + 1) env n s = (.inr (5, n), s) := by
  rw [ev_al, if_neg (by omega), if_neg (by omega), if_pos h, if_pos hc]
theorem ev_lam {f n : Nat} {env : Nat → ev_V} {s : ev_S} (h : K n = 2) (hc : s.2.1 ≠ cm) : ev_al K e N ix op bm cl cm (f + 1) env n s = (.inl (.inr s.2.1), ev_clo n env s) := by
  rw [ev_al, if_neg (by omega), if_neg (by omega), if_pos h, if_neg hc]
theorem ev_e0 {f n : Nat} {env : Nat → ev_V} {s s1 : ev_S} {x : Nat × Nat} (h : 3 ≤ K n) (h1 : ev_al K e N ix op bm cl cm f env (n + 1) s = (.inr x, s1)) : ev_al K e N ix op bm cl cm (f + 1) env n s = (.inr x, s1) := by
  rw [ev_al, if_neg (by omega), if_neg (by omega), if_neg (by omega), h1, ev_then_r]
theorem ev_ifS {f n k : Nat} {env : Nat → ev_V} {s s1 : ev_S} (h : K n = 6) (h1 : ev_al K e N ix op bm cl cm f env (n + 1) s = (.inl (.inr k), s1)) : ev_al K e N ix op bm cl cm (f + 1) env n s = (.inr (3, n), s1) := by
  rw [ev_al, if_neg (by omega), if_neg (by omega), if_neg (by omega), h1, ev_then_l, if_pos h, ev_cs_r]
theorem ev_if {f n : Nat} {i : Int32} {env : Nat → ev_V} {s s1 : ev_S} (h : K n = 6) (h1 : ev_al K e N ix op bm cl cm f env (n + 1) s = (.inl (.inl i), s1)) : ev_al K e N ix op bm cl cm (f + 1) env n s = ev_al K e N ix op bm cl cm f env (if i = 0 then e (n + 1) else e (e (n + 1))) s1 := by
  rw [ev_al, if_neg (by omega), if_neg (by omega), if_neg (by omega), h1, ev_then_l, if_pos h, ev_cs_l]
theorem ev_e1 {f n : Nat} {v : ev_V} {env : Nat → ev_V} {s s1 s2 : ev_S} {x : Nat × Nat} (h : 3 ≤ K n) (h6 : K n ≠ 6) (h1 : ev_al K e N ix op bm cl cm f env (n + 1) s = (.inl v, s1)) (h2 : ev_al K e N ix op bm cl cm f env (e (n + 1)) s1 = (.inr x, s2)) : ev_al K e N ix op bm cl cm (f + 1) env n s = (.inr x, s2) := by
  rw [ev_al, if_neg (by omega), if_neg (by omega), if_neg (by omega), h1, ev_then_l, if_neg h6, h2, ev_then_r]
theorem ev_appS {f n : Nat} {i : Int32} {w : ev_V} {env : Nat → ev_V} {s s1 s2 : ev_S} (h : K n = 3) (h1 : ev_al K e N ix op bm cl cm f env (n + 1) s = (.inl (.inl i), s1)) (h2 : ev_al K e N ix op bm cl cm f env (e (n + 1)) s1 = (.inl w, s2)) : ev_al K e N ix op bm cl cm (f + 1) env n s = (.inr (3, n), s2) := by
  rw [ev_al, if_neg (by omega), if_neg (by omega), if_neg (by omega), h1, ev_then_l, if_neg (by omega), h2, ev_then_l, if_pos h, ev_cs_l]
theorem ev_appC {f n k : Nat} {w : ev_V} {env : Nat → ev_V} {s s1 s2 : ev_S} (h : K n = 3) (h1 : ev_al K e N ix op bm cl cm f env (n + 1) s = (.inl (.inr k), s1)) (h2 : ev_al K e N ix op bm cl cm f env (e (n + 1)) s1 = (.inl w, s2)) (hc : s2.1 = cl) : ev_al K e N ix op bm cl cm (f + 1) env n s = (.inr (4, n), s2) := by
  rw [ev_al, if_neg (by omega), if_neg (by omega), if_neg (by omega), h1, ev_then_l, if_neg (by omega), h2, ev_then_l, if_pos h, ev_cs_r, if_pos hc]
theorem ev_app {f n k : Nat} {w : ev_V} {env : Nat → ev_V} {s s1 s2 : ev_S} (h : K n = 3) (h1 : ev_al K e N ix op bm cl cm f env (n + 1) s = (.inl (.inr k), s1)) (h2 : ev_al K e N ix op bm cl cm f env (e (n + 1)) s1 = (.inl w, s2)) (hc : s2.1 ≠ cl) : ev_al K e N ix op bm cl cm (f + 1) env n s = ev_al K e N ix op bm cl cm f (ev_env N k w s2) (s2.2.2.1 k + 1) (ev_call bm n k s2) := by
  rw [ev_al, if_neg (by omega), if_neg (by omega), if_neg (by omega), h1, ev_then_l, if_neg (by omega), h2, ev_then_l, if_pos h, ev_cs_r, if_neg hc]
theorem ev_sum {f n : Nat} {i j : Int32} {env : Nat → ev_V} {s s1 s2 : ev_S} (h : 4 ≤ K n ∧ K n ≠ 6) (h1 : ev_al K e N ix op bm cl cm f env (n + 1) s = (.inl (.inl i), s1)) (h2 : ev_al K e N ix op bm cl cm f env (e (n + 1)) s1 = (.inl (.inl j), s2)) : ev_al K e N ix op bm cl cm (f + 1) env n s = (.inl (.inl (if K n = 4 then i + j else i - j)), s2) := by
  rw [ev_al, if_neg (by omega), if_neg (by omega), if_neg (by omega), h1, ev_then_l, if_neg (by omega), h2, ev_then_l, if_neg (by omega), ev_cs_l, ev_cs_l]
theorem ev_sumL {f n k : Nat} {w : ev_V} {env : Nat → ev_V} {s s1 s2 : ev_S} (h : 4 ≤ K n ∧ K n ≠ 6) (h1 : ev_al K e N ix op bm cl cm f env (n + 1) s = (.inl (.inr k), s1)) (h2 : ev_al K e N ix op bm cl cm f env (e (n + 1)) s1 = (.inl w, s2)) : ev_al K e N ix op bm cl cm (f + 1) env n s = (.inr (3, n), s2) := by
  rw [ev_al, if_neg (by omega), if_neg (by omega), if_neg (by omega), h1, ev_then_l, if_neg (by omega), h2, ev_then_l, if_neg (by omega), ev_cs_r]
theorem ev_sumR {f n k : Nat} {i : Int32} {env : Nat → ev_V} {s s1 s2 : ev_S} (h : 4 ≤ K n ∧ K n ≠ 6) (h1 : ev_al K e N ix op bm cl cm f env (n + 1) s = (.inl (.inl i), s1)) (h2 : ev_al K e N ix op bm cl cm f env (e (n + 1)) s1 = (.inl (.inr k), s2)) : ev_al K e N ix op bm cl cm (f + 1) env n s = (.inr (3, n), s2) := by
  rw [ev_al, if_neg (by omega), if_neg (by omega), if_neg (by omega), h1, ev_then_l, if_neg (by omega), h2, ev_then_l, if_neg (by omega), ev_cs_l, ev_cs_r]
/-! the induction: M f env n s r s' -/
theorem ev_ind (M : Nat → (Nat → ev_V) → Nat → ev_S → ev_R → ev_S → Prop)
    (c0 : ∀ env n s, M 0 env n s (.inr (0, 0)) s)
    (cvar : ∀ f env n s, K n = 0 → M (f + 1) env n s (.inl (env (ix n))) s)
    (cnum : ∀ f env n s, K n = 1 → M (f + 1) env n s (.inl (.inl (op n))) s)
    (clamF : ∀ f env n (s : ev_S), K n = 2 → s.2.1 = cm → M (f + 1) env n s (.inr (5, n)) s)
    (clam : ∀ f env n (s : ev_S), K n = 2 → s.2.1 ≠ cm → M (f + 1) env n s (.inl (.inr s.2.1)) (ev_clo n env s))
    (ce0 : ∀ f env n s x s1, 3 ≤ K n → M f env (n + 1) s (.inr x) s1 → M (f + 1) env n s (.inr x) s1)
    (cifS : ∀ f env n s k s1, K n = 6 → M f env (n + 1) s (.inl (.inr k)) s1 → M (f + 1) env n s (.inr (3, n)) s1)
    (cif : ∀ f env n s i s1 r s2, K n = 6 → M f env (n + 1) s (.inl (.inl i)) s1 → M f env (if i = 0 then e (n + 1) else e (e (n + 1))) s1 r s2 → M (f + 1) env n s r s2)
    (ce1 : ∀ f env n s v s1 x s2, 3 ≤ K n → K n ≠ 6 → M f env (n + 1) s (.inl v) s1 → M f env (e (n + 1)) s1 (.inr x) s2 → M (f + 1) env n s (.inr x) s2)
    (cappS : ∀ f env n s i s1 w s2, K n = 3 → M f env (n + 1) s (.inl (.inl i)) s1 → M f env (e (n + 1)) s1 (.inl w) s2 → M (f + 1) env n s (.inr (3, n)) s2)
    (cappC : ∀ f env n s k s1 w (s2 : ev_S), K n = 3 → s2.1 = cl → M f env (n + 1) s (.inl (.inr k)) s1 → M f env (e (n + 1)) s1 (.inl w) s2 → M (f + 1) env n s (.inr (4, n)) s2)
    (capp : ∀ f env n s k s1 w (s2 : ev_S) r s3, K n = 3 → s2.1 ≠ cl → M f env (n + 1) s (.inl (.inr k)) s1 → M f env (e (n + 1)) s1 (.inl w) s2 → M f (ev_env N k w s2) (s2.2.2.1 k + 1) (ev_call bm n k s2) r s3 → M (f + 1) env n s r s3)
    (csum : ∀ f env n s i s1 j s2, (4 ≤ K n ∧ K n ≠ 6) → M f env (n + 1) s (.inl (.inl i)) s1 → M f env (e (n + 1)) s1 (.inl (.inl j)) s2 → M (f + 1) env n s (.inl (.inl (if K n = 4 then i + j else i - j))) s2)
    (csumS : ∀ f env n s v s1 w s2, (4 ≤ K n ∧ K n ≠ 6) → ((∃ k, v = .inr k) ∨ (∃ k, w = .inr k)) → M f env (n + 1) s (.inl v) s1 → M f env (e (n + 1)) s1 (.inl w) s2 → M (f + 1) env n s (.inr (3, n)) s2) :
    ∀ f env n s, M f env n s (ev_al K e N ix op bm cl cm f env n s).1 (ev_al K e N ix op bm cl cm f env n s).2 := by
  intro f
  induction f with
  | zero => intro env n s; exact c0 env n s
  | succ f ih =>
    intro env n s
    by_cases k0 : K n = 0
    · rw [ev_var K e N ix op bm cl cm k0]; exact cvar f env n s k0
    by_cases k1 : K n = 1
    · rw [ev_num K e N ix op bm cl cm k1]; exact cnum f env n s k1
    by_cases k2 : K n = 2
    · by_cases hc : s.2.1 = cm
      · rw [ev_lamF K e N ix op bm cl cm k2 hc]; exact clamF f env n s k2 hc
      · rw [ev_lam K e N ix op bm cl cm k2 hc]; exact clam f env n s k2 hc
    have k3 : 3 ≤ K n := by omega
    have i1 := ih env (n + 1) s
    rcases h1 : ev_al K e N ix op bm cl cm f env (n + 1) s with ⟨r1, s1⟩
    rw [h1] at i1
    rcases r1 with v | x
    · by_cases k6 : K n = 6
      · rcases v with i | k
        · rw [ev_if K e N ix op bm cl cm k6 h1]
          exact cif f env n s i s1 _ _ k6 i1 (ih env _ s1)
        · rw [ev_ifS K e N ix op bm cl cm k6 h1]
          exact cifS f env n s k s1 k6 i1
      · have i2 := ih env (e (n + 1)) s1
        rcases h2 : ev_al K e N ix op bm cl cm f env (e (n + 1)) s1 with ⟨r2, s2⟩
        rw [h2] at i2
        rcases r2 with w | x
        · by_cases ka : K n = 3
          · rcases v with i | k
            · rw [ev_appS K e N ix op bm cl cm ka h1 h2]
              exact cappS f env n s i s1 w s2 ka i1 i2
            · by_cases hc : s2.1 = cl
              · rw [ev_appC K e N ix op bm cl cm ka h1 h2 hc]
                exact cappC f env n s k s1 w s2 ka hc i1 i2
              · rw [ev_app K e N ix op bm cl cm ka h1 h2 hc]
                exact capp f env n s k s1 w s2 _ _ ka hc i1 i2 (ih _ _ _)
          · have ks : 4 ≤ K n ∧ K n ≠ 6 := by omega
            rcases v with i | k
            · rcases w with j | k
              · rw [ev_sum K e N ix op bm cl cm ks h1 h2]
                exact csum f env n s i s1 j s2 ks i1 i2
              · rw [ev_sumR K e N ix op bm cl cm ks h1 h2]
                exact csumS f env n s _ s1 _ s2 ks (Or.inr ⟨k, rfl⟩) i1 i2
            · rw [ev_sumL K e N ix op bm cl cm ks h1 h2]
              exact csumS f env n s _ s1 _ s2 ks (Or.inl ⟨k, rfl⟩) i1 i2
        · rw [ev_e1 K e N ix op bm cl cm k3 k6 h1 h2]
          exact ce1 f env n s v s1 x s2 k3 k6 i1 i2
    · rw [ev_e0 K e N ix op bm cl cm k3 h1]
      exact ce0 f env n s x s1 k3 i1
end
