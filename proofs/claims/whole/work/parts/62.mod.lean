/-! the reference: division, greatest common divisor -/
theorem up_comm {rv : Nat → Nat} {i j u v : Nat} (h : i ≠ j) : up (up rv i u) j v = up (up rv j v) i u := by
  funext x
  unfold up
  by_cases c1 : x = i
  · rw [if_neg (by omega), if_pos c1, if_pos c1]
  · by_cases c2 : x = j
    · rw [if_pos c2, if_neg c1, if_pos c2]
    · rw [if_neg c2, if_neg c1, if_neg c1, if_neg c2]
theorem cz_neg {a b : Nat} : cz (a : Int) (b : Int) < 0 ↔ a < b := by
  unfold cz
  by_cases h : (a : Int) = b
  · rw [if_pos h]; omega
  · rw [if_neg h]
    by_cases h2 : (a : Int) < b
    · rw [if_pos h2]; omega
    · rw [if_neg h2]; omega
theorem cz_rng (a b : Int) : -1 ≤ cz a b ∧ cz a b ≤ 1 := by
  unfold cz
  split
  · omega
  · split <;> omega
theorem two_lt {r : Nat} (h : r < Bp 63) : r * 2 ^ 1 + 1 < Bp 64 := by
  have : Bp 64 = Bp 63 * 4294967296 := Bp_succ 63
  omega
section
variable {d r a b c q e : Nat} {σ : St} {rv : Nat → Nat}
theorem m_divM (ha : a < 16) (hb : b < 16) (hq : q < 16) (he : e < 16) (aq : a ≠ q) (ae : a ≠ e) (bq : b ≠ q) (be : b ≠ e) (qe : q ≠ e) (hB : BM rv) (hb0 : 0 < rv b) (hb63 : rv b < Bp 63) :
    Er (d + 2) 90 (0, ent 90 [.ref 1, .int (nI a), .int (nI b), .int (nI q), .int (nI e)], [], MS σ rv) (.inl none, MS σ (up (up rv q (rv a / rv b)) e (rv a % rv b)), 0) := by
  obtain ⟨A, eA⟩ : ∃ A, A = rv a := ⟨_, rfl⟩
  obtain ⟨B, eB⟩ : ∃ B, B = rv b := ⟨_, rfl⟩
  rw [← eA, ← eB]
  rw [← eB] at hb0 hb63
  have hA64 : A < Bp 64 := by rw [eA]; exact hB a
  have b63le : Bp 63 ≤ Bp 64 := Bp_le (by decide)
  have hBA : bln A ≤ 2048 := bln_le.mpr hA64
  have vals : ∀ Q R, up (up rv q Q) e R a = A ∧ up (up rv q Q) e R b = B ∧ up (up rv q Q) e R q = Q ∧ up (up rv q Q) e R e = R := by
    intro Q R
    refine ⟨?_, ?_, ?_, ?_⟩
    · rw [up_n ae, up_n aq, eA]
    · rw [up_n be, up_n bq, eB]
    · rw [up_n qe, up_s]
    · rw [up_s]
  have loop : ∀ k, k ≤ 2048 → (A / 2 ^ k / B * 2 ^ k < Bp 64) → Er (d + 2) 90 (20, [some (.ref 1), some (.int (nI a)), some (.int (nI b)), some (.int (nI q)), some (.int (nI e)), some (.int (nI k - 1))], [], MS σ (up (up rv q (A / 2 ^ k / B * 2 ^ k)) e (A / 2 ^ k % B))) (.inl none, MS σ (up (up rv q (A / B)) e (A % B)), 0) := by
    intro k
    induction k with
    | zero =>
      intro _ _
      rw [Nat.pow_zero, Nat.div_one, Nat.mul_one]
      exact b90_20 (fun _ => b90_100) (fun z => absurd (by decide) z)
    | succ k ih =>
      intro hk hQ64
      obtain ⟨X, eX⟩ : ∃ X, X = A / 2 ^ (k + 1) := ⟨_, rfl⟩
      rw [← eX] at hQ64 ⊢
      have hX2 : A / 2 ^ k = 2 * X + A / 2 ^ k % 2 := by
        have : A / 2 ^ k / 2 = X := by rw [eX, Nat.pow_succ, Nat.div_div_eq_div_mul]
        omega
      obtain ⟨Q, eQ⟩ : ∃ Q, Q = X / B * 2 ^ (k + 1) := ⟨_, rfl⟩
      obtain ⟨R, eR⟩ : ∃ R, R = X % B := ⟨_, rfl⟩
      obtain ⟨t, et⟩ : ∃ t, t = A / 2 ^ k % 2 := ⟨_, rfl⟩
      rw [← eQ] at hQ64 ⊢
      rw [← eR]
      have hR : R < B := by rw [eR]; exact Nat.mod_lt _ hb0
      have ht : t < 2 := by rw [et]; exact Nat.mod_lt _ (by decide)
      have hRB : R < Bp 63 := by omega
      have h2R := two_lt hRB
      have hXB : B * (X / B) + R = X := by rw [eR]; exact Nat.div_add_mod X B
      have bm : BM (up (up rv q Q) e R) := BM_up (BM_up hB hQ64) (by omega)
      obtain ⟨v1, v2, v3, v4⟩ := vals Q R
      rw [nI_pred]
      refine b90_20 (fun z => absurd z (nI_pos (by omega))) (fun _ => ?_)
      have t1 := m_up (d := d) (σ := σ) (rv := up (up rv q Q) e R) (r := e) (n := 1) he bm (by decide) (by rw [v4]; omega)
      rw [v4, up_up] at t1
      refine b90_25 k1 t1 ?_
      obtain ⟨v1, v2, v3, v4⟩ := vals Q (R * 2 ^ 1)
      have t2 := m_bit (d := d) (σ := σ) (rv := up (up rv q Q) e (R * 2 ^ 1)) (r := a) (i := k) ha (by omega)
      rw [v1, ← et] at t2
      have e0 : (64 : Int32) * nI e = (64 : Int32) * nI e + nI 0 := by rw [ix, show (64 : Int32) = nI 64 from rfl, pk_mul, Nat.add_zero]
      refine b90_32 k1 (by rw [e0]; exact inM he (by decide)) t2 ?_
      have hd0 : dg (R * 2 ^ 1) 0 + t < 4294967296 := by
        rw [dg_zero]
        omega
      have eor : lN (dg (R * 2 ^ 1) 0) ||| lN t = lN (dg (R * 2 ^ 1) 0 + t) := by
        obtain ⟨h, hh⟩ : ∃ h, dg (R * 2 ^ 1) 0 = h * 2 ^ 1 := ⟨dg (R * 2 ^ 1) 0 / 2, by rw [dg_zero]; omega⟩
        have := dg_lt (R * 2 ^ 1) 0
        rw [hh] at this ⊢
        exact or_N (k := 1) (by omega) (by omega)
      have w := wrM (σ := σ) (rv := up (up rv q Q) e (R * 2 ^ 1)) (r := e) (k := 0) (x := dg (R * 2 ^ 1) 0 + t) he (by decide) hd0
      rw [v4, up_up] at w
      have esd : sd (R * 2 ^ 1) 0 (dg (R * 2 ^ 1) 0 + t) = R * 2 ^ 1 + t := by
        have := sd_eq (R * 2 ^ 1) 0 (dg (R * 2 ^ 1) 0 + t)
        rw [Bp_0] at this
        omega
      rw [esd] at w
      have bm2 : BM (up (up rv q Q) e (R * 2 ^ 1 + t)) := BM_up (BM_up hB hQ64) (by omega)
      obtain ⟨u1, u2, u3, u4⟩ := vals Q (R * 2 ^ 1 + t)
      have t3 := m_cmpM (d := d) (σ := σ) (rv := up (up rv q Q) e (R * 2 ^ 1 + t)) (a := e) (b := b) he hb bm2
      rw [u2, u4] at t3
      have rde : gal (MS σ (up (up rv q Q) e (R * 2 ^ 1))) (fr 1 4) ((64 : Int32) * nI e).toNatClampNeg = lN (dg (R * 2 ^ 1) 0) := by
        rw [e0, rdM he (by decide), v4]
      refine b90_50 (r := iZ (cz ((R * 2 ^ 1 + t : Nat) : Int) (B : Int))) (σ2 := MS σ (up (up rv q Q) e (R * 2 ^ 1 + t))) (by rw [e0]; exact inM he (by decide)) k1 ?_ ?_
      · rw [rde, eor, e0, w]
        exact t3
      have hcr := cz_rng ((R * 2 ^ 1 + t : Nat) : Int) (B : Int)
      refine b90_59 (fun z => ?_) (fun z => ?_)
      · rw [iz_lt0 (by omega) (by omega), cz_neg] at z
        have e1 : A / 2 ^ k / B = 2 * (X / B) := by
          rw [hX2, ← et]
          have : 2 * X + t = (R * 2 ^ 1 + t) + B * (2 * (X / B)) := by
            have : B * (2 * (X / B)) = 2 * (B * (X / B)) := by rw [Nat.mul_left_comm]
            omega
          rw [this, Nat.add_mul_div_left _ _ hb0, Nat.div_eq_of_lt z, Nat.zero_add]
        have e2 : A / 2 ^ k % B = R * 2 ^ 1 + t := by
          rw [hX2, ← et]
          have : 2 * X + t = (R * 2 ^ 1 + t) + B * (2 * (X / B)) := by
            have : B * (2 * (X / B)) = 2 * (B * (X / B)) := by rw [Nat.mul_left_comm]
            omega
          rw [this, Nat.add_mul_mod_self_left, Nat.mod_eq_of_lt z]
        have e3 : A / 2 ^ k / B * 2 ^ k = Q := by
          rw [e1, eQ, Nat.pow_succ, Nat.mul_comm 2, Nat.mul_assoc, Nat.mul_comm 2]
        have nxt := ih (by omega) (by rw [e3]; exact hQ64)
        rw [e3, e2] at nxt
        refine b90_94 ?_
        rw [add_m1]
        exact nxt
      · rw [iz_lt0 (by omega) (by omega), cz_neg] at z
        have t4 := m_takeM (d := d) (σ := σ) (rv := up (up rv q Q) e (R * 2 ^ 1 + t)) (a := e) (b := b) he hb be bm2 (by rw [u2, u4]; omega)
        rw [u2, u4, up_up] at t4
        refine b90_62 k1 t4 ?_
        obtain ⟨s1, s2, s3, s4⟩ := vals Q (R * 2 ^ 1 + t - B)
        have i1 : nI k / 32 = nI (k / 32) := pk_div (d := 32) (by omega) (by decide) (by decide)
        have i2 : nI k - nI k / 32 * 32 = nI (k % 32) := pk_rem (d := 32) (by omega) (by decide) (by decide)
        refine b90_69 k1 (by decide) (by rw [i1]; exact inM hq (by omega)) ?_
        -- the bit of the quotient
        obtain ⟨g, hg⟩ : ∃ g, g = X / B % 2 ^ (31 - k % 32) := ⟨_, rfl⟩
        have hgl : g < 2 ^ (31 - k % 32) := by rw [hg]; exact Nat.mod_lt _ (Nat.two_pow_pos _)
        have p32 : (4294967296 : Nat) = 2 ^ (31 - k % 32) * 2 ^ (k % 32 + 1) := by rw [← Nat.pow_add, show 31 - k % 32 + (k % 32 + 1) = 32 by omega]
        have ed : dg Q (k / 32) = g * 2 ^ (k % 32 + 1) := by
          have : Q / Bp (k / 32) = X / B * 2 ^ (k % 32 + 1) := by
            have e : Q = X / B * 2 ^ (k % 32 + 1) * Bp (k / 32) := by
              unfold Bp
              rw [eQ, Nat.mul_assoc, ← Nat.pow_add, show k % 32 + 1 + 32 * (k / 32) = k + 1 by omega]
            rw [e, Nat.mul_div_cancel _ (Bp_pos _)]
          rw [dg_Bp, this, p32, Nat.mul_mod_mul_right, hg]
        have hsum : g * 2 ^ (k % 32 + 1) + 2 ^ (k % 32) < 4294967296 := by
          have h1 : (g + 1) * 2 ^ (k % 32 + 1) ≤ 2 ^ (31 - k % 32) * 2 ^ (k % 32 + 1) := Nat.mul_le_mul_right _ hgl
          rw [← p32, Nat.add_mul, Nat.one_mul] at h1
          have h2 : 2 ^ (k % 32) < 2 ^ (k % 32 + 1) := Nat.pow_lt_pow_right (by decide) (by omega)
          omega
        have eor2 : lN (dg Q (k / 32)) ||| ((1 : Int64) <<< ((nI (k % 32)).toInt64 &&& 63)) = lN (dg Q (k / 32) + 2 ^ (k % 32)) := by
          rw [show (1 : Int64) = lN 1 from rfl, shl_N (k % 32) rfl (by omega), Nat.one_mul, ed]
          exact or_N (k := k % 32 + 1) (Nat.pow_lt_pow_right (by decide) (by omega)) (Nat.lt_of_le_of_lt (Nat.le_add_right _ _) (Nat.lt_trans hsum (by decide)))
        have w2 := wrM (σ := σ) (rv := up (up rv q Q) e (R * 2 ^ 1 + t - B)) (r := q) (k := k / 32) (x := dg Q (k / 32) + 2 ^ (k % 32)) hq (by omega) (by rw [ed]; exact hsum)
        rw [s3] at w2
        have esd2 : sd Q (k / 32) (dg Q (k / 32) + 2 ^ (k % 32)) = Q + 2 ^ k := by
          have h1 := sd_eq Q (k / 32) (dg Q (k / 32) + 2 ^ (k % 32))
          rw [Nat.add_mul] at h1
          have h2 : 2 ^ (k % 32) * Bp (k / 32) = 2 ^ k := by
            unfold Bp
            rw [← Nat.pow_add, show k % 32 + 32 * (k / 32) = k by omega]
          omega
        rw [esd2, up_comm qe.symm, up_up] at w2
        rw [i2, i1, rdM hq (by omega), s3, eor2, w2]
        have this1 : 2 * X + t = (R * 2 ^ 1 + t - B) + B * (2 * (X / B) + 1) := by
          have : B * (2 * (X / B) + 1) = 2 * (B * (X / B)) + B := by rw [Nat.mul_add, Nat.mul_left_comm, Nat.mul_one]
          omega
        have lt1 : R * 2 ^ 1 + t - B < B := by omega
        have e1 : A / 2 ^ k / B = 2 * (X / B) + 1 := by
          rw [hX2, ← et, this1, Nat.add_mul_div_left _ _ hb0, Nat.div_eq_of_lt lt1, Nat.zero_add]
        have e2 : A / 2 ^ k % B = R * 2 ^ 1 + t - B := by
          rw [hX2, ← et, this1, Nat.add_mul_mod_self_left, Nat.mod_eq_of_lt lt1]
        have e3 : A / 2 ^ k / B * 2 ^ k = Q + 2 ^ k := by
          rw [e1, Nat.add_mul, Nat.one_mul, eQ, Nat.pow_succ, Nat.mul_comm 2, Nat.mul_assoc, Nat.mul_comm 2]
        have hle : Q + 2 ^ k < Bp 64 := by
          rw [← e3]
          have h1 : A / 2 ^ k / B ≤ A / 2 ^ k := Nat.div_le_self _ _
          have h2 : A / 2 ^ k / B * 2 ^ k ≤ A / 2 ^ k * 2 ^ k := Nat.mul_le_mul_right _ h1
          have h3 := Nat.div_mul_le_self A (2 ^ k)
          omega
        have nxt := ih (by omega) (by rw [e3]; exact hle)
        rw [e3, e2] at nxt
        refine b90_94 ?_
        rw [add_m1]
        exact nxt
  have z1 := m_zero (d := d) (σ := σ) (rv := rv) (r := q) hq hB
  have z2 := m_zero (d := d) (σ := σ) (rv := up rv q 0) (r := e) he (BM_up hB (Bp_pos _))
  have z3 := m_lenM (d := d) (σ := σ) (rv := up (up rv q 0) e 0) (r := a) ha (BM_up (BM_up hB (Bp_pos _)) (Bp_pos _))
  rw [(vals 0 0).1] at z3
  have hz : A / 2 ^ bln A = 0 := Nat.div_eq_of_lt bln_lt
  have l0 := loop (bln A) hBA (by rw [hz, Nat.zero_div, Nat.zero_mul]; exact Bp_pos _)
  rw [hz, Nat.zero_div, Nat.zero_mul, Nat.zero_mod] at l0
  exact b90_0 k1 z1 (b90_5 k1 z2 (b90_11 k1 z3 (b90_16 l0)))
/-! twos -/
theorem gcd_half {h w : Nat} (hg : Nat.gcd (2 * h) w % 2 = 1) : Nat.gcd h w = Nat.gcd (2 * h) w := by
  apply Nat.dvd_antisymm
  · exact Nat.dvd_gcd (Nat.dvd_trans (Nat.gcd_dvd_left h w) ⟨2, Nat.mul_comm _ _⟩) (Nat.gcd_dvd_right h w)
  · refine Nat.dvd_gcd ?_ (Nat.gcd_dvd_right _ _)
    have c : Nat.Coprime (Nat.gcd (2 * h) w) 2 := by
      show Nat.gcd (Nat.gcd (2 * h) w) 2 = 1
      rw [Nat.gcd_comm, Nat.gcd_rec, hg]
      decide
    exact Nat.Coprime.dvd_of_dvd_mul_left c (Nat.gcd_dvd_left _ _)
theorem m_gcd (ha : a < 14) (hb : b < 14) (hB : BM rv) : ∃ x, x < Bp 64 ∧ Er (d + 2) 82 (0, ent 82 [.ref 1, .int (nI a), .int (nI b)], [], MS σ rv) (.inl none, MS σ (up (up rv 14 (Nat.gcd (rv a) (rv b))) 15 x), 0) := by
  obtain ⟨A, eA⟩ : ∃ A, A = rv a := ⟨_, rfl⟩
  obtain ⟨B, eB⟩ : ∃ B, B = rv b := ⟨_, rfl⟩
  have hA : A < Bp 64 := by rw [eA]; exact hB a
  have hB64 : B < Bp 64 := by rw [eB]; exact hB b
  have t1 := m_copy (d := d) (σ := σ) (rv := rv) (a := a) (b := 14) (by omega) (by decide) (by omega) hB
  have t2 := m_copy (d := d) (σ := σ) (rv := up rv 14 (rv a)) (a := b) (b := 15) (by omega) (by decide) (by omega) (BM_up hB (hB a))
  rw [up_n (by omega)] at t2
  rw [← eA] at t1 t2
  rw [← eB] at t2
  rw [← eA, ← eB]
  have bm : ∀ {u w : Nat}, u < Bp 64 → w < Bp 64 → BM (up (up rv 14 u) 15 w) := fun h1 h2 => BM_up (BM_up hB h1) h2
  have v14 : ∀ u w, up (up rv 14 u) 15 w 14 = u := fun u w => by rw [up_n (by decide), up_s]
  have v15 : ∀ u w, up (up rv 14 u) 15 w 15 = w := fun u w => up_s _ _ _
  have z14 : ∀ {d : Nat} (u w), u < Bp 64 → w < Bp 64 → Er (d + 1) 81 (0, ent 81 [.ref 1, .int (nI 14)], [], MS σ (up (up rv 14 u) 15 w)) (.inl (some (.int (if u = 0 then 1 else 0))), MS σ (up (up rv 14 u) 15 w), 0) := by
    intro d u w hu hw
    have := m_isZ (d := d) (σ := σ) (r := 14) (by decide) (bm hu hw)
    rw [v14] at this
    exact this
  have z15 : ∀ {d : Nat} (u w), u < Bp 64 → w < Bp 64 → Er (d + 1) 81 (0, ent 81 [.ref 1, .int (nI 15)], [], MS σ (up (up rv 14 u) 15 w)) (.inl (some (.int (if w = 0 then 1 else 0))), MS σ (up (up rv 14 u) 15 w), 0) := by
    intro d u w hu hw
    have := m_isZ (d := d) (σ := σ) (r := 15) (by decide) (bm hu hw)
    rw [v15] at this
    exact this
  have e14 : ∀ {d : Nat} (u w), Er (d + 1) 84 (0, ent 84 [.ref 1, .int (nI 14)], [], MS σ (up (up rv 14 u) 15 w)) (.inl (some (.int (if u % 2 = 0 then 1 else 0))), MS σ (up (up rv 14 u) 15 w), 0) := by
    intro d u w
    have := m_even (d := d) (σ := σ) (rv := up (up rv 14 u) 15 w) (r := 14) (by decide)
    rw [v14] at this
    exact this
  have e15 : ∀ {d : Nat} (u w), Er (d + 1) 84 (0, ent 84 [.ref 1, .int (nI 15)], [], MS σ (up (up rv 14 u) 15 w)) (.inl (some (.int (if w % 2 = 0 then 1 else 0))), MS σ (up (up rv 14 u) 15 w), 0) := by
    intro d u w
    have := m_even (d := d) (σ := σ) (rv := up (up rv 14 u) 15 w) (r := 15) (by decide)
    rw [v15] at this
    exact this
  have h14 : ∀ {d : Nat} (u w), u < Bp 64 → w < Bp 64 → Er (d + 1) 85 (0, ent 85 [.ref 1, .int (nI 14)], [], MS σ (up (up rv 14 u) 15 w)) (.inl none, MS σ (up (up rv 14 (u / 2)) 15 w), 0) := by
    intro d u w hu hw
    have := m_half (d := d) (σ := σ) (r := 14) (by decide) (bm hu hw)
    rw [v14, up_comm (i := 15) (j := 14) (by decide), up_up] at this
    exact this
  have h15 : ∀ {d : Nat} (u w), u < Bp 64 → w < Bp 64 → Er (d + 1) 85 (0, ent 85 [.ref 1, .int (nI 15)], [], MS σ (up (up rv 14 u) 15 w)) (.inl none, MS σ (up (up rv 14 u) 15 (w / 2)), 0) := by
    intro d u w hu hw
    have := m_half (d := d) (σ := σ) (r := 15) (by decide) (bm hu hw)
    rw [v15, up_up] at this
    exact this
  by_cases hA0 : A = 0
  · refine ⟨B, hB64, b82_0 k1 t1 (b82_7 k1 t2 (b82_14 k1 (z14 A B hA hB64) ?_))⟩
    rw [if_pos hA0]
    refine b82_20 (fun _ => b82_32 k1 (z14 A B hA hB64) ?_) (fun z => absurd z (by decide))
    rw [if_pos hA0]
    refine b82_38 (fun z => absurd z (by decide)) (fun _ => ?_)
    have t3 := m_copy (d := d) (σ := σ) (rv := up (up rv 14 A) 15 B) (a := 15) (b := 14) (by decide) (by decide) (by decide) (bm hA hB64)
    rw [v15, up_comm (i := 15) (j := 14) (by decide), up_up] at t3
    rw [hA0, Nat.gcd_zero_left]
    rw [hA0] at t3
    exact b82_41 k1 t3 b82_49
  · by_cases hB0 : B = 0
    · refine ⟨B, hB64, b82_0 k1 t1 (b82_7 k1 t2 (b82_14 k1 (z14 A B hA hB64) ?_))⟩
      rw [if_neg hA0]
      refine b82_20 (fun z => absurd rfl z) (fun _ => b82_23 k1 (z15 A B hA hB64) ?_)
      rw [if_pos hB0]
      refine b82_29 (fun z => absurd z (by decide)) (fun _ => b82_32 k1 (z14 A B hA hB64) ?_)
      rw [if_neg hA0]
      refine b82_38 (fun _ => ?_) (fun z => absurd rfl z)
      rw [hB0, Nat.gcd_zero_right]
      exact b82_49
    · obtain ⟨G, eG⟩ : ∃ G, G = Nat.gcd A B := ⟨_, rfl⟩
      rw [← eG]
      have hG0 : 0 < G := by rw [eG]; exact Nat.gcd_pos_of_pos_left _ (Nat.pos_of_ne_zero hA0)
      have hG64 : G < Bp 64 := by rw [eG]; exact Nat.lt_of_le_of_lt (Nat.gcd_le_left _ (Nat.pos_of_ne_zero hA0)) hA
      -- the main loop
      have main : ∀ s u w t, u + w ≤ s → 0 < u → u < Bp 64 → w < Bp 64 → t < 2048 → Nat.gcd u w * 2 ^ t = G → Nat.gcd u w % 2 = 1 → ∃ x, x < Bp 64 ∧ Er (d + 2) 82 (88, [some (.ref 1), some (.int (nI a)), some (.int (nI b)), some (.int (nI t))], [], MS σ (up (up rv 14 u) 15 w)) (.inl none, MS σ (up (up rv 14 G) 15 x), 0) := by
        intro s
        induction s with
        | zero => intro u w t hs hu; omega
        | succ s ih =>
          intro u w t hs hu hu64 hw64 ht hg hodd
          by_cases hw0 : w = 0
          · refine ⟨0, Bp_pos _, b82_88 k1 (z15 u w hu64 hw64) ?_⟩
            rw [if_pos hw0]
            rw [hw0, Nat.gcd_zero_right] at hg
            have t5 := m_up (d := d) (σ := σ) (rv := up (up rv 14 u) 15 w) (r := 14) (n := t) (by decide) (bm hu64 hw64) ht (by rw [v14, hg]; exact hG64)
            rw [v14, hg, up_comm (i := 15) (j := 14) (by decide), up_up, hw0] at t5
            rw [hw0]
            exact b82_94 (fun _ => b82_163 k1 t5 b82_170) (fun z => absurd z (by decide))
          · -- both made odd
            have ev14 : ∀ s2 u, u ≤ s2 → u + w ≤ s + 1 → 0 < u → u < Bp 64 → Nat.gcd u w * 2 ^ t = G → Nat.gcd u w % 2 = 1 → (∀ u, u + w ≤ s + 1 → u % 2 = 1 → u < Bp 64 → Nat.gcd u w * 2 ^ t = G → Nat.gcd u w % 2 = 1 → ∃ x, x < Bp 64 ∧ Er (d + 2) 82 (115, [some (.ref 1), some (.int (nI a)), some (.int (nI b)), some (.int (nI t))], [], MS σ (up (up rv 14 u) 15 w)) (.inl none, MS σ (up (up rv 14 G) 15 x), 0)) → ∃ x, x < Bp 64 ∧ Er (d + 2) 82 (97, [some (.ref 1), some (.int (nI a)), some (.int (nI b)), some (.int (nI t))], [], MS σ (up (up rv 14 u) 15 w)) (.inl none, MS σ (up (up rv 14 G) 15 x), 0) := by
              intro s2
              induction s2 with
              | zero => intro u h1 h2 h3; omega
              | succ s2 ih2 =>
                intro u h1 h2 h3 h4 h5 h6 kont
                by_cases c : u % 2 = 0
                · have eu : u = 2 * (u / 2) := by omega
                  have g1 : Nat.gcd (u / 2) w = Nat.gcd u w := by
                    conv => rhs; rw [eu]
                    exact gcd_half (by rw [← eu]; exact h6)
                  obtain ⟨x, hx, hE⟩ := ih2 (u / 2) (by omega) (by omega) (by omega) (by omega) (by rw [g1]; exact h5) (by rw [g1]; exact h6) kont
                  refine ⟨x, hx, b82_97 k1 (e14 u w) ?_⟩
                  rw [if_pos c]
                  exact b82_103 (fun z => absurd z (by decide)) (fun _ => b82_106 k1 (h14 u w h4 hw64) (b82_112 hE))
                · obtain ⟨x, hx, hE⟩ := kont u h2 (by omega) h4 h5 h6
                  refine ⟨x, hx, b82_97 k1 (e14 u w) ?_⟩
                  rw [if_neg c]
                  exact b82_103 (fun _ => hE) (fun z => absurd rfl z)
            have ev15 : ∀ s2 u w, w ≤ s2 → u + w ≤ s + 1 → u % 2 = 1 → 0 < w → u < Bp 64 → w < Bp 64 → Nat.gcd u w * 2 ^ t = G → Nat.gcd u w % 2 = 1 → ∃ x, x < Bp 64 ∧ Er (d + 2) 82 (115, [some (.ref 1), some (.int (nI a)), some (.int (nI b)), some (.int (nI t))], [], MS σ (up (up rv 14 u) 15 w)) (.inl none, MS σ (up (up rv 14 G) 15 x), 0) := by
              intro s2
              induction s2 with
              | zero => intro u w h1 h2 h3 h4; omega
              | succ s2 ih2 =>
                intro u w h1 h2 h3 h4 h5 h6 h7 h8
                by_cases c : w % 2 = 0
                · have eu : w = 2 * (w / 2) := by omega
                  have g1 : Nat.gcd u (w / 2) = Nat.gcd u w := by
                    rw [Nat.gcd_comm u, Nat.gcd_comm u]
                    conv => rhs; rw [eu]
                    exact gcd_half (by rw [← eu, Nat.gcd_comm]; exact h8)
                  obtain ⟨x, hx, hE⟩ := ih2 u (w / 2) (by omega) (by omega) h3 (by omega) h5 (by omega) (by rw [g1]; exact h7) (by rw [g1]; exact h8)
                  refine ⟨x, hx, b82_115 k1 (e15 u w) ?_⟩
                  rw [if_pos c]
                  exact b82_121 (fun z => absurd z (by decide)) (fun _ => b82_124 k1 (h15 u w h5 h6) (b82_130 hE))
                · -- both odd
                  have fin : ∀ u w, u ≤ w → u + w ≤ s + 1 → 0 < u → u < Bp 64 → w < Bp 64 → Nat.gcd u w * 2 ^ t = G → Nat.gcd u w % 2 = 1 → ∃ x, x < Bp 64 ∧ Er (d + 2) 82 (152, [some (.ref 1), some (.int (nI a)), some (.int (nI b)), some (.int (nI t))], [], MS σ (up (up rv 14 u) 15 w)) (.inl none, MS σ (up (up rv 14 G) 15 x), 0) := by
                    intro u w h1 h2 h3 h4 h5 h6 h7
                    have g1 : Nat.gcd u (w - u) = Nat.gcd u w := by
                      conv => rhs; rw [show w = w - u + u by omega]
                      rw [Nat.gcd_add_self_right]
                    obtain ⟨x, hx, hE⟩ := ih u (w - u) t (by omega) h3 h4 (by omega) ht (by rw [g1]; exact h6) (by rw [g1]; exact h7)
                    have t6 := m_takeM (d := d) (σ := σ) (rv := up (up rv 14 u) 15 w) (a := 15) (b := 14) (by decide) (by decide) (by decide) (bm h4 h5) (by rw [v14, v15]; exact h1)
                    rw [v14, v15, up_up] at t6
                    exact ⟨x, hx, b82_152 k1 t6 (b82_160 hE)⟩
                  have t7 := m_cmpM (d := d) (σ := σ) (rv := up (up rv 14 u) 15 w) (a := 14) (b := 15) (by decide) (by decide) (bm h5 h6)
                  rw [v14, v15] at t7
                  have hcr := cz_rng (u : Int) (w : Int)
                  have hcle : iZ (cz (u : Int) (w : Int)) ≤ 0 ↔ u ≤ w := by
                    rw [iZ0, iZ_le (by omega) (by omega) (by decide) (by decide)]
                    unfold cz
                    by_cases q1 : (u : Int) = w
                    · rw [if_pos q1]; omega
                    · rw [if_neg q1]
                      by_cases q2 : (u : Int) < w
                      · rw [if_pos q2]; omega
                      · rw [if_neg q2]; omega
                  have to133 : ∀ {q : Rs}, Er (d + 2) 82 (133, [some (.ref 1), some (.int (nI a)), some (.int (nI b)), some (.int (nI t))], [], MS σ (up (up rv 14 u) 15 w)) q → Er (d + 2) 82 (115, [some (.ref 1), some (.int (nI a)), some (.int (nI b)), some (.int (nI t))], [], MS σ (up (up rv 14 u) 15 w)) q := by
                    intro q hq
                    refine b82_115 k1 (e15 u w) ?_
                    rw [if_neg c]
                    exact b82_121 (fun _ => hq) (fun z => absurd rfl z)
                  by_cases hle : u ≤ w
                  · obtain ⟨x, hx, hE⟩ := fin u w hle h2 (by omega) h5 h6 h7 h8
                    exact ⟨x, hx, to133 (b82_133 k1 t7 (b82_141 (fun _ => hE) (fun z => absurd (hcle.mpr hle) z)))⟩
                  · obtain ⟨x, hx, hE⟩ := fin w u (by omega) (by omega) h4 h6 h5 (by rw [Nat.gcd_comm]; exact h7) (by rw [Nat.gcd_comm]; exact h8)
                    have t8 := m_swap (d := d) (σ := σ) (rv := up (up rv 14 u) 15 w) (a := 14) (b := 15) (by decide) (by decide) (by decide) (bm h5 h6)
                    rw [v14, v15, up_comm (i := 15) (j := 14) (by decide), up_up, up_up] at t8
                    exact ⟨x, hx, to133 (b82_133 k1 t7 (b82_141 (fun z => absurd (hcle.mp z) hle) (fun _ => b82_144 k1 t8 hE)))⟩
            obtain ⟨x, hx, hE⟩ := ev14 u u (Nat.le_refl _) hs hu hu64 hg hodd (fun u h1 h2 h3 h4 h5 => ev15 w u w (Nat.le_refl _) h1 h2 (Nat.pos_of_ne_zero hw0) h3 hw64 h4 h5)
            refine ⟨x, hx, b82_88 k1 (z15 u w hu64 hw64) ?_⟩
            rw [if_neg hw0]
            exact b82_94 (fun z => absurd rfl z) (fun _ => hE)
      -- twos of both
      have twosL : ∀ s u w t, u ≤ s → 0 < u → 0 < w → u < Bp 64 → w < Bp 64 → Nat.gcd u w * 2 ^ t = G → ∃ x, x < Bp 64 ∧ Er (d + 2) 82 (52, [some (.ref 1), some (.int (nI a)), some (.int (nI b)), some (.int (nI t))], [], MS σ (up (up rv 14 u) 15 w)) (.inl none, MS σ (up (up rv 14 G) 15 x), 0) := by
        intro s
        induction s with
        | zero => intro u w t h1 h2; omega
        | succ s ih =>
          intro u w t h1 h2 h3 h4 h5 h6
          have ht : t < 2048 := by
            apply Nat.lt_of_not_le
            intro c
            have a1 : 2 ^ 2048 ≤ 2 ^ t := Nat.pow_le_pow_right (by decide) c
            have a2 : 1 * 2 ^ t ≤ Nat.gcd u w * 2 ^ t := Nat.mul_le_mul_right _ (Nat.gcd_pos_of_pos_left _ h2)
            have a3 : G < 2 ^ 2048 := hG64
            omega
          by_cases c : u % 2 = 0
          · by_cases c2 : w % 2 = 0
            · have eu : u = 2 * (u / 2) := by omega
              have ew : w = 2 * (w / 2) := by omega
              have g1 : Nat.gcd (u / 2) (w / 2) * 2 ^ (t + 1) = G := by
                rw [← h6]
                conv => rhs; rw [eu, ew]
                rw [Nat.gcd_mul_left, Nat.pow_succ]
                generalize Nat.gcd (u / 2) (w / 2) = x
                generalize 2 ^ t = y
                ac_rfl
              obtain ⟨x, hx, hE⟩ := ih (u / 2) (w / 2) (t + 1) (by omega) (by omega) (by omega) (by omega) (by omega) g1
              refine ⟨x, hx, b82_52 k1 (e14 u w) ?_⟩
              rw [if_pos c]
              refine b82_58 (fun z => absurd z (by decide)) (fun _ => b82_61 k1 (e15 u w) ?_)
              rw [if_pos c2]
              refine b82_67 (fun z => absurd z (by decide)) (fun _ => b82_70 k1 (h14 u w h4 h5) (b82_76 k1 (h15 (u / 2) w (by omega) h5) (b82_82 ?_)))
              rw [nI_1]
              exact hE
            · have hodd : Nat.gcd u w % 2 = 1 := by
                have hd := Nat.gcd_dvd_right u w
                obtain ⟨k, hk⟩ := hd
                by_cases z : Nat.gcd u w % 2 = 0
                · exfalso
                  apply c2
                  rw [hk, Nat.mul_mod, z, Nat.zero_mul, Nat.zero_mod]
                · omega
              obtain ⟨x, hx, hE⟩ := main (u + w) u w t (Nat.le_refl _) h2 h4 h5 ht h6 hodd
              refine ⟨x, hx, b82_52 k1 (e14 u w) ?_⟩
              rw [if_pos c]
              refine b82_58 (fun z => absurd z (by decide)) (fun _ => b82_61 k1 (e15 u w) ?_)
              rw [if_neg c2]
              exact b82_67 (fun _ => hE) (fun z => absurd rfl z)
          · have hodd : Nat.gcd u w % 2 = 1 := by
              have hd := Nat.gcd_dvd_left u w
              obtain ⟨k, hk⟩ := hd
              by_cases z : Nat.gcd u w % 2 = 0
              · exfalso
                apply c
                rw [hk, Nat.mul_mod, z, Nat.zero_mul, Nat.zero_mod]
              · omega
            obtain ⟨x, hx, hE⟩ := main (u + w) u w t (Nat.le_refl _) h2 h4 h5 ht h6 hodd
            refine ⟨x, hx, b82_52 k1 (e14 u w) ?_⟩
            rw [if_neg c]
            exact b82_58 (fun _ => hE) (fun z => absurd rfl z)
      obtain ⟨x, hx, hE⟩ := twosL A A B 0 (Nat.le_refl _) (Nat.pos_of_ne_zero hA0) (Nat.pos_of_ne_zero hB0) hA hB64 (by rw [eG, Nat.pow_zero, Nat.mul_one])
      refine ⟨x, hx, b82_0 k1 t1 (b82_7 k1 t2 (b82_14 k1 (z14 A B hA hB64) ?_))⟩
      rw [if_neg hA0]
      refine b82_20 (fun z => absurd rfl z) (fun _ => b82_23 k1 (z15 A B hA hB64) ?_)
      rw [if_neg hB0]
      exact b82_29 (fun _ => b82_50 hE) (fun z => absurd rfl z)
end
