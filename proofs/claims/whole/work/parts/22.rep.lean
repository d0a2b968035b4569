/-! ===== how the class keeps a state of the machine ===== -/
theorem xr_us {f : Nat → Int64} {k : Nat} {x : Int64} : vp_updL f k x k = x := if_pos rfl
theorem xr_un {f : Nat → Int64} {k j : Nat} {x : Int64} (h : j ≠ k) : vp_updL f k x j = f j := if_neg h
/-- calls, closures, their lambdas, their values, the frame, returns, the frames' values, the waiting ones; nn tells the nest at a control c -/
def xr_P (lc N nn : Nat → Nat) (c : Nat) (a : am_S) (ca co : Int32) (cll : Nat → Int32) (clv : Nat → Int64) (fr : Int32) (ret : Nat → Int32) (fv : Nat → Int64) (wc : Int32) (wt : Nat → Int64) : Prop :=
  (ca = nI a.1.1 ∧ co = nI a.1.2.1 ∧ ∀ k, k < a.1.2.1 → cll k = nI (lc (a.1.2.2.1 k)) ∧ ∀ i, i < N (a.1.2.2.1 k) → clv (k * 5 + i) = bi_enc (a.1.2.2.2.1 k i)) ∧
  fr = nI a.2.1 ∧ (∀ j, 0 < j → j ≤ a.2.1 → ret j = nI (a.2.2.2.1 j)) ∧
  (∀ j, j < a.2.1 → ∀ i, i < nn (a.2.2.2.1 (j + 1)) → i < 5 → fv (j * 5 + i) = bi_enc (a.2.2.1 j i)) ∧
  (∀ i, i < nn c → i < 5 → fv (a.2.1 * 5 + i) = bi_enc (a.2.2.1 a.2.1 i)) ∧
  wc = nI a.2.2.2.2.1 ∧ (∀ j, j < a.2.2.2.2.1 → wt j = bi_enc (a.2.2.2.2.2 j))
section
variable {lc N nn : Nat → Nat} {bm : Nat → Int32} {c f w : Nat} {s : ev_S} {F : Nat → Nat → ev_V} {R : Nat → Nat} {W : Nat → ev_V} {ca co fr wc : Int32} {cll ret : Nat → Int32} {clv fv wt : Nat → Int64}
theorem xr_ctl {a : am_S} {c' : Nat} (h : xr_P lc N nn c a ca co cll clv fr ret fv wc wt) (e : nn c' = nn c) : xr_P lc N nn c' a ca co cll clv fr ret fv wc wt := by
  obtain ⟨h1, h2, h3, h4, h5, h6⟩ := h
  refine ⟨h1, h2, h3, h4, ?_, h6⟩
  rw [e]
  exact h5
theorem xr_push (h : xr_P lc N nn c (s, f, F, R, w, W) ca co cll clv fr ret fv wc wt) (v : ev_V) {wc' : Int32} (e : wc' = nI (w + 1)) : xr_P lc N nn c (s, f, F, R, w + 1, am_pw W w v) ca co cll clv fr ret fv wc' (vp_updL wt w (bi_enc v)) := by
  obtain ⟨h1, h2, h3, h4, h5, h6, h7⟩ := h
  refine ⟨h1, h2, h3, h4, h5, e, fun j hj => ?_⟩
  have hj' : j < w + 1 := hj
  show vp_updL wt w (bi_enc v) j = bi_enc (am_pw W w v j)
  by_cases z : j = w
  · subst z; rw [xr_us, am_pw_s]
  · rw [xr_un z, am_pw_n W v z]; exact h7 j (show j < w by omega)
theorem xr_pop {v : ev_V} (h : xr_P lc N nn c (s, f, F, R, w + 1, am_pw W w v) ca co cll clv fr ret fv wc wt) : wc = nI (w + 1) ∧ wt w = bi_enc v ∧ ∀ wc', wc' = nI w → xr_P lc N nn c (s, f, F, R, w, W) ca co cll clv fr ret fv wc' wt := by
  obtain ⟨h1, h2, h3, h4, h5, h6, h7⟩ := h
  refine ⟨h6, ?_, fun wc' e => ⟨h1, h2, h3, h4, h5, e, fun j hj => ?_⟩⟩
  · have := h7 w (Nat.lt_succ_self w)
    rw [this]
    show bi_enc (am_pw W w v w) = _
    rw [am_pw_s]
  · have hj' : j < w := hj
    have := h7 j (show j < w + 1 by omega)
    rw [this]
    show bi_enc (am_pw W w v j) = bi_enc (W j)
    rw [am_pw_n W v (show j ≠ w by omega)]
theorem xr_clo {m : Nat} {co' : Int32} {cll' : Nat → Int32} {clv' : Nat → Int64} (h : xr_P lc N nn c (s, f, F, R, w, W) ca co cll clv fr ret fv wc wt) (hn : nn c = N m) (hN : N m ≤ 5) (h5 : ∀ k, k < s.2.1 → N (s.2.2.1 k) ≤ 5) (e1 : co' = nI (s.2.1 + 1)) (e2 : cll' s.2.1 = nI (lc m)) (e3 : ∀ k, k < s.2.1 → cll' k = cll k) (e4 : ∀ i, i < N m → clv' (s.2.1 * 5 + i) = fv (f * 5 + i)) (e5 : ∀ j, j < s.2.1 * 5 → clv' j = clv j) : xr_P lc N nn c (ev_clo m (F f) s, f, F, R, w, W) ca co' cll' clv' fr ret fv wc wt := by
  obtain ⟨⟨h1, h1b, h1c⟩, h2, h3, h4, h5', h6⟩ := h
  refine ⟨⟨h1, e1, fun k hk => ?_⟩, h2, h3, h4, h5', h6⟩
  have hk' : k < s.2.1 + 1 := hk
  show cll' k = nI (lc (if k = s.2.1 then m else s.2.2.1 k)) ∧ ∀ i, i < N (if k = s.2.1 then m else s.2.2.1 k) → clv' (k * 5 + i) = bi_enc ((if k = s.2.1 then F f else s.2.2.2.1 k) i)
  by_cases z : k = s.2.1
  · subst z
    rw [if_pos rfl, if_pos rfl]
    refine ⟨e2, fun i hi => ?_⟩
    rw [e4 i hi]
    exact h5' i (by rw [hn]; exact hi) (by omega)
  · rw [if_neg z, if_neg z]
    have hk2 : k < s.2.1 := by omega
    obtain ⟨a, b⟩ := h1c k hk2
    have := h5 k hk2
    refine ⟨(e3 k hk2).trans a, fun i hi => ?_⟩
    rw [e5 (k * 5 + i) (by omega)]
    exact b i hi
theorem xr_call {m k z c' : Nat} {x : ev_V} {ca' fr' : Int32} {ret' : Nat → Int32} {fv' : Nat → Int64} (h : xr_P lc N nn c (s, f, F, R, w, W) ca co cll clv fr ret fv wc wt) (hk : k < s.2.1) (hN : N (s.2.2.1 k) ≤ 4) (hc : nn c' = N (s.2.2.1 k) + 1) (hz : nn z = nn c) (e1 : ca' = nI (s.1 + 1)) (e2 : fr' = nI (f + 1)) (e3 : ret' (f + 1) = nI z) (e4 : ∀ j, j ≤ f → ret' j = ret j) (e5 : ∀ i, i < N (s.2.2.1 k) → fv' ((f + 1) * 5 + i) = clv (k * 5 + i)) (e6 : fv' ((f + 1) * 5 + N (s.2.2.1 k)) = bi_enc x) (e7 : ∀ j, j < (f + 1) * 5 → fv' j = fv j) : xr_P lc N nn c' (ev_call bm m k s, f + 1, am_pf F (f + 1) (ev_env N k x s), tr_put R (f + 1) z, w, W) ca' co cll clv fr' ret' fv' wc wt := by
  obtain ⟨⟨h1, h1b, h1c⟩, h2, h3, h4, h5, h6⟩ := h
  refine ⟨⟨e1, h1b, h1c⟩, e2, fun j j0 j1 => ?_, fun j hj i hi h5i => ?_, fun i hi h5i => ?_, h6⟩
  · have j1' : j ≤ f + 1 := j1
    show ret' j = nI (tr_put R (f + 1) z j)
    by_cases y : j = f + 1
    · subst y; rw [tr_put_s]; exact e3
    · rw [tr_put_n R _ y, e4 j (by omega)]
      exact h3 j j0 (show j ≤ f by omega)
  · have hj' : j < f + 1 := hj
    have hi' : i < nn (tr_put R (f + 1) z (j + 1)) := hi
    show fv' (j * 5 + i) = bi_enc (am_pf F (f + 1) (ev_env N k x s) j i)
    rw [am_pf_n F _ (show j ≠ f + 1 by omega), e7 (j * 5 + i) (by omega)]
    by_cases y : j = f
    · subst y
      rw [tr_put_s, hz] at hi'
      exact h5 i hi' h5i
    · rw [tr_put_n R _ (show j + 1 ≠ f + 1 by omega)] at hi'
      exact h4 j (show j < f by omega) i hi' h5i
  · show fv' ((f + 1) * 5 + i) = bi_enc (am_pf F (f + 1) (ev_env N k x s) (f + 1) i)
    rw [am_pf_s]
    rw [hc] at hi
    show _ = bi_enc (if i = N (s.2.2.1 k) then x else s.2.2.2.1 k i)
    by_cases y : i = N (s.2.2.1 k)
    · rw [if_pos y, y]; exact e6
    · rw [if_neg y, e5 i (by omega)]
      have hi3 : i < N (s.2.2.1 k) := by omega
      exact (h1c k hk).2 i hi3
theorem xr_ret {g : Nat → ev_V} {z : Nat} (h : xr_P lc N nn c (s, f + 1, am_pf F (f + 1) g, tr_put R (f + 1) z, w, W) ca co cll clv fr ret fv wc wt) : fr = nI (f + 1) ∧ ret (f + 1) = nI z ∧ ∀ fr', fr' = nI f → xr_P lc N nn z (s, f, F, R, w, W) ca co cll clv fr' ret fv wc wt := by
  obtain ⟨h1, h2, h3, h4, h5, h6⟩ := h
  refine ⟨h2, ?_, fun fr' e => ⟨h1, e, fun j j0 j1 => ?_, fun j hj i hi h5i => ?_, fun i hi h5i => ?_, h6⟩⟩
  · have := h3 (f + 1) (Nat.succ_pos f) (Nat.le_refl _)
    rw [this]
    show nI (tr_put R (f + 1) z (f + 1)) = _
    rw [tr_put_s]
  · have j1' : j ≤ f := j1
    have := h3 j j0 (show j ≤ f + 1 by omega)
    rw [this]
    show nI (tr_put R (f + 1) z j) = nI (R j)
    rw [tr_put_n R _ (show j ≠ f + 1 by omega)]
  · have hj' : j < f := hj
    have hi' : i < nn (R (j + 1)) := hi
    have := h4 j (show j < f + 1 by omega) i (by
      show i < nn (tr_put R (f + 1) z (j + 1))
      rw [tr_put_n R _ (show j + 1 ≠ f + 1 by omega)]; exact hi') h5i
    rw [this]
    show bi_enc (am_pf F (f + 1) g j i) = bi_enc (F j i)
    rw [am_pf_n F _ (show j ≠ f + 1 by omega)]
  · have hi' : i < nn z := hi
    have := h4 f (Nat.lt_succ_self f) i (by
      show i < nn (tr_put R (f + 1) z (f + 1))
      rw [tr_put_s]; exact hi') h5i
    rw [this]
    show bi_enc (am_pf F (f + 1) g f i) = bi_enc (F f i)
    rw [am_pf_n F _ (show f ≠ f + 1 by omega)]
end
