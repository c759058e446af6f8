/-! Naturals: wipe, measure, reads -/
theorem n20 {v : Nat} (h : v < 2 ^ 640) : nd v ≤ 20 := nd_le.mpr h
theorem c_wipe {d i v : Nat} {σ : St} (hi : NI i) (h : Nt σ i v) : Er (d + 1) 12 (0, ent 12 [.ref i], [], σ) (.inl none, sN σ i 0, 0) := by
  have hn := n20 h.2.2
  have loop : ∀ n k, k + n = nd v → Er (d + 1) 12 (2, [some (.ref i), some (.int (nI k))], [], rN σ i (fun j => if j < k then 0 else dgs v j) (nI (nd v))) (.inl none, sN σ i 0, 0) := by
    intro n
    induction n with
    | zero =>
      intro k hk
      refine b12_2 hi.k (fun _ => ?_) (fun hc => ?_)
      · have e := b12_23 (d := d) (x0 := i) (x1 := nI k) (σ := rN σ i (fun j => if j < k then 0 else dgs v j) (nI (nd v))) hi.s
        rw [rN_sfi] at e
        have ef : (fun j => if j < k then 0 else dgs v j) = dgs 0 := by
          rw [dgs_0]
          funext j
          by_cases hj : j < k
          · rw [if_pos hj]
          · rw [if_neg hj]
            show lN (dg v j) = 0
            rw [dg_z (nd_lt v) (by omega)]
            rfl
        rw [ef] at e
        exact e
      · rw [rN_n, nI_leI (by omega) (by omega)] at hc
        omega
    | succ n ih =>
      intro k hk
      refine b12_2 hi.k (fun hc => ?_) (fun _ => ?_)
      · rw [rN_n, nI_leI (by omega) (by omega)] at hc
        omega
      · refine b12_10 hi.k (hi.w (by omega)) ?_
        rw [hi.f, nI_32 (by omega), rN_sal, nI_1]
        have ef : vp_updL (fun j => if j < k then 0 else dgs v j) k 0 = fun j => if j < k + 1 then 0 else dgs v j := by
          funext j
          unfold vp_updL
          by_cases hj : j = k
          · subst hj; simp
          · rw [if_neg hj]
            by_cases h2 : j < k
            · rw [if_pos h2, if_pos (by omega)]
            · rw [if_neg h2, if_neg (by omega)]
        rw [ef]
        exact ih (k + 1) (by omega)
  have h0 := loop (nd v) 0 (by omega)
  have e0 : rN σ i (fun j => if j < 0 then 0 else dgs v j) (nI (nd v)) = σ := by
    have : (fun j => if j < 0 then 0 else dgs v j) = dgs v := by funext j; simp
    rw [this]
    exact h.self
  rw [e0] at h0
  exact b12_0 h0
theorem c_measure {d i v e : Nat} {σ : St} (hi : NI i) (hf : gal σ (i + 16) = dgs v) (he : e ≤ 20) (hv : v < 2 ^ (32 * e)) : Er (d + 1) 13 (0, ent 13 [.ref i, .int (nI e)], [], σ) (.inl none, sN σ i v, 0) := by
  have hnd : nd v ≤ e := nd_le.mpr hv
  have loop : ∀ n k, k = nd v + n → k ≤ 20 → Er (d + 1) 13 (16, [some (.ref i), some (.int (nI e))], [], rN σ i (dgs v) (nI k)) (.inl none, sN σ i v, 0) := by
    intro n
    induction n with
    | zero =>
      intro k hk h20
      subst hk
      have fin : Er (d + 1) 13 (52, [some (.ref i), some (.int (nI e))], [], rN σ i (dgs v) (nI (nd v))) (.inl none, sN σ i v, 0) := b13_52
      refine b13_16 hi.k (fun _ => fin) (fun hc => ?_)
      rw [rN_n, ← nI_0, nI_leI (by omega) (by omega)] at hc
      have e1 : nI (nd v) - 1 = nI (nd v - 1) := by
        obtain ⟨j, hj⟩ : ∃ j, nd v = j + 1 := ⟨nd v - 1, by omega⟩
        rw [hj, nI_pred]
        rfl
      refine b13_23 hi.k ?_ (fun _ => fin) (fun hz => ?_)
      · rw [rN_n, e1]
        exact hi.w (by omega)
      · rw [rN_n, e1, hi.f, rN_f, nI_32 (by omega)] at hz
        have hz : lN (dg v (nd v - 1)) = 0 := hz
        rw [lN_ne0 (dg_lt _ _), dg_top0 (by rw [Nat.sub_add_cancel (by omega)]; exact nd_lt v), ← nd_le] at hz
        omega
    | succ n ih =>
      intro k hk h20
      refine b13_16 hi.k (fun hc => ?_) (fun _ => ?_)
      · rw [rN_n, ← nI_0, nI_leI (by omega) (by omega)] at hc
        omega
      · have e1 : nI k - 1 = nI (k - 1) := by
          obtain ⟨j, hj⟩ : ∃ j, k = j + 1 := ⟨k - 1, by omega⟩
          rw [hj, nI_pred]
          rfl
        refine b13_23 hi.k ?_ (fun hz => ?_) (fun _ => ?_)
        · rw [rN_n, e1]
          exact hi.w (by omega)
        · rw [rN_n, e1, hi.f, rN_f, nI_32 (by omega)] at hz
          have hz : ¬ lN (dg v (k - 1)) = 0 := hz
          rw [lN_ne0 (dg_lt _ _)] at hz
          exact absurd (dg_z (nd_lt v) (by omega)) hz
        · refine b13_39 hi.k hi.s ?_
          rw [rN_n, rN_sfi, e1]
          exact ih (k - 1) (by omega) (by omega)
  have start : ∀ k, k ≤ 20 → nd v ≤ k → Er (d + 1) 13 (13, [some (.ref i), some (.int (nI e))], [.int (nI k), .ref i], σ) (.inl none, sN σ i v, 0) := by
    intro k hk hk2
    refine b13_13 hi.s ?_
    have h := loop (k - nd v) k (by omega) hk
    have e1 : sfi σ i 1 (nI k) = rN σ i (dgs v) (nI k) := by
      rw [← hf]
      conv => lhs; rw [← rN_self σ i]
      rw [rN_sfi]
    rw [e1]
    exact h
  refine b13_0 (fun hc => ?_) (fun hc => ?_)
  · refine b13_11 ?_
    exact start 20 (Nat.le_refl _) (by omega)
  · refine b13_7 ?_
    exact start e he hnd
theorem c_isZero {d i v : Nat} {σ : St} (hi : NI i) (h : Nt σ i v) : Er (d + 1) 17 (0, ent 17 [.ref i], [], σ) (.inl (some (.int (if v = 0 then 1 else 0))), σ, 0) := by
  have hn := n20 h.2.2
  refine b17_0 hi.k (fun hc => ?_) (fun hc => ?_)
  · rw [h.2.1, ← nI_0, nI_eq (by omega) (by decide)] at hc
    have : ¬ v = 0 := by
      rintro rfl
      exact hc nd_0
    rw [if_neg this]
    exact b17_11 (b17_12 rfl)
  · rw [h.2.1, ← nI_0, nI_eq (by omega) (by decide)] at hc
    have : v = 0 := by
      have := nd_pos (v := v)
      omega
    rw [if_pos this]
    exact b17_7 (b17_12 rfl)
