/-! Division: the whole of it -/
theorem bln_mul {b s : Nat} (hb : 0 < b) : bln (b * 2 ^ s) = bln b + s := by
  have h1 := bln_lt (v := b)
  have h2 := bln_ge hb
  have h3 := bln_pos.mpr hb
  refine bln_eq ?_ ?_ (by omega)
  · rw [Nat.pow_add]
    exact Nat.mul_lt_mul_of_pos_right h1 (Nat.two_pow_pos s)
  · rw [show bln b + s - 1 = (bln b - 1) + s by omega, Nat.pow_add]
    exact Nat.mul_le_mul_right _ h2
theorem norm {b s : Nat} (hb : 0 < b) (hs : s = 32 * nd b - bln b) : nd (b * 2 ^ s) = nd b ∧ 2147483648 * Bp (nd b - 1) ≤ b * 2 ^ s ∧ s < 32 := by
  have h3 := bln_pos.mpr hb
  have h4 : nd b = (bln b + 31) / 32 := rfl
  have hl : bln (b * 2 ^ s) = 32 * nd b := by
    rw [bln_mul hb]
    omega
  have h5 : nd (b * 2 ^ s) = (bln (b * 2 ^ s) + 31) / 32 := rfl
  refine ⟨by omega, ?_, by omega⟩
  have hp : 0 < b * 2 ^ s := Nat.mul_pos hb (Nat.two_pow_pos s)
  have := bln_ge hp
  rw [hl] at this
  have e : 2147483648 * Bp (nd b - 1) = 2 ^ (32 * nd b - 1) := by
    unfold Bp
    rw [show (2147483648 : Nat) = 2 ^ 31 from rfl, ← Nat.pow_add]
    congr 1
    omega
  rw [e]
  exact this
theorem c_div {d D i k a b wq wx wv : Nat} {σ : St} (hD : DI D) (hi : NI i) (hk : NI k) (i0 : i ≠ fr D 0) (i1 : i ≠ fr D 1) (k0 : k ≠ fr D 0) (k1 : k ≠ fr D 1) (k2 : k ≠ fr D 2)
    (ha : Nt σ i a) (hb : Nt σ k b) (hq : Nt σ (fr D 0) wq) (hr : Nt σ (fr D 1) wx) (hv : Nt σ (fr D 2) wv) (hlt : a < 2 ^ 600) :
    ∃ x, x < 2 ^ 640 ∧ Er (d + 3) 6 (0, ent 6 [.ref D, .ref i, .ref k], [], σ) (.inl none, sN (sN (sN σ (fr D 0) (a / b)) (fr D 1) (a % b)) (fr D 2) x, 0) := by
  have q1 : Nt (sN σ (fr D 0) 0) i a := sN_ne ha i0
  have q2 : Nt (sN σ (fr D 0) 0) (fr D 1) wx := sN_ne hr hD.qr.symm
  have q3 : Nt (sN (sN σ (fr D 0) 0) (fr D 1) a) k b := sN_ne (sN_ne hb k0) k1
  have q4 : Nt (sN (sN σ (fr D 0) 0) (fr D 1) a) i a := sN_ne q1 i1
  have q5 : Nt (sN (sN σ (fr D 0) 0) (fr D 1) a) (fr D 2) wv := sN_ne (sN_ne hv hD.qv.symm) hD.rv.symm
  have hnb := n20 hb.2.2
  have small : a < b ∨ b = 0 → ∃ x, x < 2 ^ 640 ∧ sN (sN (sN σ (fr D 0) (a / b)) (fr D 1) (a % b)) (fr D 2) x = sN (sN σ (fr D 0) 0) (fr D 1) a := by
    intro h
    refine ⟨wv, hv.2.2, ?_⟩
    have e1 : a / b = 0 := by
      rcases h with h | h
      · exact Nat.div_eq_of_lt h
      · rw [h, Nat.div_zero]
    have e2 : a % b = a := by
      rcases h with h | h
      · exact Nat.mod_eq_of_lt h
      · rw [h, Nat.mod_zero]
    rw [e1, e2]
    exact q5.self
  have head : ∀ {q : Rs}, (¬ b = 0 → b ≤ a → Er (d + 3) 6 (32, [some (.ref D), some (.ref i), some (.ref k), none, none, none], [], sN (sN σ (fr D 0) 0) (fr D 1) a) q) → (a < b ∨ b = 0 → q = (.inl none, sN (sN σ (fr D 0) 0) (fr D 1) a, 0)) → Er (d + 3) 6 (0, ent 6 [.ref D, .ref i, .ref k], [], σ) q := by
    intro q hbig hsm
    refine b6_0 hD.k hD.q.k (c_takeJ (n := 0) hD.q hq (by decide)) ?_
    refine b6_8 hD.k hD.r.k (c_takeN hD.r hi q2 q1) ?_
    refine b6_16 hk.k (c_isZero hk q3) (b6_20 (fun g => ?_) (fun g => ?_))
    · have hb0 : b = 0 := by
        by_cases h : b = 0
        · exact h
        · rw [if_neg h] at g; exact absurd rfl g
      rw [hsm (Or.inr hb0)]
      exact b6_31
    · have hb0 : ¬ b = 0 := by
        intro h
        rw [if_pos h] at g
        exact absurd g (by decide)
      refine b6_23 hi.k (c_cmp hi hk q4 q3) (b6_28 (fun g => ?_) (fun g => ?_))
      · refine hbig hb0 ?_
        apply Nat.le_of_not_lt
        intro h
        unfold cmpI at g
        rw [if_neg (by omega), if_pos (by omega)] at g
        exact absurd g (by decide)
      · have : a < b := by
          apply Nat.lt_of_not_le
          intro h
          apply g
          unfold cmpI
          by_cases e : (a : Int) = b
          · rw [if_pos e]; decide
          · rw [if_neg e, if_neg (by omega)]; decide
        rw [hsm (Or.inl this)]
        exact b6_31
  by_cases hsm : a < b ∨ b = 0
  · obtain ⟨x, hx, e⟩ := small hsm
    refine ⟨x, hx, head (fun h1 h2 => ?_) (fun _ => by rw [e])⟩
    rcases hsm with h | h
    · omega
    · exact absurd h h1
  have hb0 : 0 < b := by omega
  have hab : b ≤ a := by omega
  obtain ⟨s, hs⟩ : ∃ s, s = 32 * nd b - bln b := ⟨_, rfl⟩
  obtain ⟨hnV, hVge, hs32⟩ := norm hb0 hs
  obtain ⟨V, hV⟩ : ∃ V, V = b * 2 ^ s := ⟨_, rfl⟩
  obtain ⟨A, hA⟩ : ∃ A, A = a * 2 ^ s := ⟨_, rfl⟩
  rw [← hV] at hnV hVge
  have hpow : 2 ^ s ≤ 2 ^ 31 := Nat.pow_le_pow_right (by decide) (by omega)
  have hA631 : A < 2 ^ 631 := by
    rw [hA, show (2 : Nat) ^ 631 = 2 ^ 600 * 2 ^ 31 from by rw [← Nat.pow_add]]
    exact Nat.lt_of_lt_of_le (Nat.mul_lt_mul_of_pos_right hlt (Nat.two_pow_pos s)) (Nat.mul_le_mul_left _ hpow)
  have hVA : V ≤ A := by rw [hV, hA]; exact Nat.mul_le_mul_right _ hab
  have hA640 : A < 2 ^ 640 := Nat.lt_trans hA631 (Nat.pow_lt_pow_right (by decide) (by decide))
  have hV640 : V < 2 ^ 640 := Nat.lt_of_le_of_lt hVA hA640
  have hV0 : 0 < V := by rw [hV]; exact Nat.mul_pos hb0 (Nat.two_pow_pos s)
  have hnb19 : nd b ≤ 19 := by
    rw [nd_Bp]
    exact Nat.lt_of_le_of_lt hab (Nat.lt_trans hlt (Nat.pow_lt_pow_right (by decide) (by decide)))
  have hndb := nd_pos.mpr hb0
  refine ⟨V, hV640, head (fun _ _ => ?_) (fun h => by omega)⟩
  refine b6_32 hk.k (c_len hk q3) ?_
  have es : gfi (sN (sN σ (fr D 0) 0) (fr D 1) a) k 1 * 32 - nI (bln b) = nI s := by
    have h4 : nd b = (bln b + 31) / 32 := rfl
    rw [q3.2.1, show (32 : Int32) = nI 32 from rfl, pk_mul, pk_sub (by omega), hs, Nat.mul_comm]
  refine b6_43 hD.k hD.v.k (c_takeN hD.v hk q5 q3) ?_
  rw [es]
  have q6 : Nt (sN (sN (sN σ (fr D 0) 0) (fr D 1) a) (fr D 2) b) (fr D 2) b := sN_Nt hb.2.2
  refine b6_53 hD.k hD.v.k (c_shiftUp hD.v q6 (by omega) (by rw [← hV]; exact hV640)) ?_
  rw [sN_sN, ← hV]
  have q7 : Nt (sN (sN (sN σ (fr D 0) 0) (fr D 1) a) (fr D 2) V) (fr D 1) a := sN_ne (sN_Nt ha.2.2) hD.rv
  refine b6_61 hD.k hD.r.k (c_shiftUp hD.r q7 (by omega) (by rw [← hA]; exact hA640)) ?_
  rw [← hA, sN_comm hD.rv.symm, sN_sN, sN_comm hD.qv.symm]
  have q8 : Nt (sN (sN (sN σ (fr D 2) V) (fr D 0) 0) (fr D 1) A) (fr D 1) A := sN_Nt hA640
  have q9 : Nt (sN (sN (sN σ (fr D 2) V) (fr D 0) 0) (fr D 1) A) (fr D 2) V := sN_ne (sN_ne (sN_Nt hV640) hD.qv.symm) hD.rv.symm
  have hVn : nd V ≤ nd A := by
    rw [nd_Bp]
    exact Nat.lt_of_le_of_lt hVA (nd_self A)
  have hA20 := n20 hA640
  refine b6_69 hD.k hD.r.k hD.v.k ?_
  rw [q8.2.1, q9.2.1, show (19 : Int32) = nI 19 from rfl, imin (by omega) (by omega), pk_sub (by omega)]
  obtain ⟨pl, hpl⟩ : ∃ pl, pl = min (nd A) 19 - nd V := ⟨_, rfl⟩
  rw [← hpl]
  have hdg : 2147483648 ≤ dg V (nd V - 1) := by
    rw [dg_top (by rw [Nat.sub_add_cancel (by omega)]; exact nd_self V), Nat.le_div_iff_mul_le (Nat.two_pow_pos _), hnV]
    exact hVge
  have hAV : A / V = a / b := by rw [hA, hV, Nat.mul_div_mul_right _ _ (Nat.two_pow_pos s)]
  have hAm : A % V = a % b * 2 ^ s := by rw [hA, hV, Nat.mul_mod_mul_right]
  have loop : ∀ p Q U, p ≤ pl + 1 → Q * V + U = A → U < V * Bp p → Q % Bp p = 0 → Q < Bp 20 → U < Bp 20 →
      Er (d + 3) 6 (95, [some (.ref D), some (.ref i), some (.ref k), some (.int (nI s)), some (.int (nI pl)), some (.int (nI p - 1))], [], rN (rN (sN σ (fr D 2) V) (fr D 0) (dgs Q) (nI 0)) (fr D 1) (dgs U) (nI (nd A))) (.inl none, sN (sN (sN σ (fr D 0) (a / b)) (fr D 1) (a % b)) (fr D 2) V, 0) := by
    intro p
    induction p with
    | zero =>
      intro Q U _ hE hU _ hQ20 hU20
      rw [Bp_0, Nat.mul_one] at hU
      have hQ : Q = a / b := by
        rw [← hAV, ← hE, Nat.add_comm, Nat.add_mul_div_right _ _ hV0, Nat.div_eq_of_lt hU, Nat.zero_add]
      have hU2 : U = a % b * 2 ^ s := by
        rw [← hAm, ← hE, Nat.add_comm, Nat.add_mul_mod_self_right, Nat.mod_eq_of_lt hU]
      refine b6_95 (fun _ => ?_) (fun g => absurd (by decide) g)
      rw [rN_comm hD.qr.symm]
      refine b6_122 hD.k hD.q.k (mes (e := 20) hD.q (by decide) hQ20) ?_
      unfold sN
      rw [rN_comm hD.qr]
      refine b6_131 hD.k hD.r.k (mes (e := 20) hD.r (by decide) hU20) ?_
      refine b6_140 hD.k hD.r.k (c_shiftDown (v := U) (n := s) hD.r (sN_Nt hU20) (by omega)) ?_
      rw [hU2, Nat.mul_div_cancel _ (Nat.two_pow_pos s), sN_sN, hQ]
      unfold sN
      rw [rN_comm hD.qv, rN_comm (i := fr D 2) hD.rv]
      exact b6_148
    | succ p ih =>
      intro Q U hp hE hU hQ hQ20 hU20
      rw [nI_pred]
      refine b6_95 (fun g => absurd g (nI_pos (by omega))) (fun _ => ?_)
      have v1 : Nt (rN (sN σ (fr D 2) V) (fr D 0) (dgs Q) (nI 0)) (fr D 2) V := rN_Nt hD.qv.symm (sN_Nt hV640)
      have hVp : 0 < V * Bp p := Nat.mul_pos hV0 (Bp_pos p)
      have hw : U / (V * Bp p) < 4294967296 := by
        rw [Nat.div_lt_iff_lt_mul hVp, Nat.mul_comm, Nat.mul_assoc, ← Bp_succ]
        exact hU
      refine b6_100 hD.k hD.q.k (c_divideAt hD v1 (by omega) hdg (by omega) hU20 hU) ?_
      refine b6_115 (hD.q.w (by omega)) ?_
      rw [rN_comm hD.qr.symm, wr hD.q (by omega) hw, rN_comm hD.qr, add_m1]
      have hQ0 : dg Q p = 0 := by
        rw [← dg_mod Q (Nat.lt_succ_self p), hQ, dg_0]
      have hsd := sd_eq Q p (U / (V * Bp p))
      rw [hQ0, Nat.zero_mul, Nat.add_zero] at hsd
      have hdm := Nat.div_add_mod U (V * Bp p)
      refine ih _ _ (by omega) ?_ (Nat.mod_lt _ hVp) ?_ (sd_lt hQ20 (by omega) hw) (Nat.lt_of_le_of_lt (Nat.mod_le _ _) hU20)
      · rw [hsd, Nat.add_mul]
        have : U / (V * Bp p) * Bp p * V = V * Bp p * (U / (V * Bp p)) := by
          generalize U / (V * Bp p) = w
          generalize Bp p = P
          ac_rfl
        omega
      · rw [hsd, Nat.add_mul_mod_self_right]
        have : Q % Bp (p + 1) % Bp p = Q % Bp p := Nat.mod_mod_of_dvd Q ⟨4294967296, Bp_succ p⟩
        rw [← this, hQ, Nat.zero_mod]
  have := loop (pl + 1) 0 A (Nat.le_refl _) (by omega) ?_ (Nat.zero_mod _) (Bp_pos _) hA640
  · rw [nI_pred] at this
    exact this
  · have h1 : 2147483648 * Bp (nd V - 1 + (pl + 1)) ≤ V * Bp (pl + 1) := by
      rw [Bp_add, ← Nat.mul_assoc]
      refine Nat.mul_le_mul_right _ ?_
      rw [hnV]
      exact hVge
    rcases Nat.lt_or_ge (nd A) 20 with g | g
    · have e : nd V - 1 + (pl + 1) = nd A := by omega
      rw [e] at h1
      have := nd_self A
      omega
    · have e : nd V - 1 + (pl + 1) = 19 := by omega
      rw [e] at h1
      have e2 : 2147483648 * Bp 19 = 2 ^ 639 := by
        unfold Bp
        rw [show (2147483648 : Nat) = 2 ^ 31 from rfl, ← Nat.pow_add]
      rw [e2] at h1
      have : (2 : Nat) ^ 631 ≤ 2 ^ 639 := Nat.pow_le_pow_right (by decide) (by decide)
      omega
