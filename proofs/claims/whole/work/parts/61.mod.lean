/-! the reference: products, lengths, shifts -/
theorem lN_dg63 (v k : Nat) : dg v k < 2 ^ 63 := Nat.lt_trans (dg_lt _ _) (by decide)
section
variable {d r a b c : Nat} {σ : St} {rv : Nat → Nat}
theorem m_times (ha : a < 16) (hb : b < 16) (hc : c < 16) (hac : a ≠ c) (hbc : b ≠ c) (hB : BM rv) (hs : rv a * rv b < Bp 64) : Er (d + 2) 108 (0, ent 108 [.ref 1, .int (nI a), .int (nI b), .int (nI c)], [], MS σ rv) (.inl none, MS σ (up rv c (rv a * rv b)), 0) := by
  obtain ⟨A, eA⟩ : ∃ A, A = rv a := ⟨_, rfl⟩
  obtain ⟨B, eB⟩ : ∃ B, B = rv b := ⟨_, rfl⟩
  rw [← eA, ← eB] at hs ⊢
  have hA64 : A < Bp 64 := by rw [eA]; exact hB a
  have hB64 : B < Bp 64 := by rw [eB]; exact hB b
  refine b108_0 k1 (m_zero hc hB) (b108_5 ?_)
  have outer : ∀ n i, i + n = 64 → ∀ o5 o6 o7 o8 o9 o10 o11 o12 o13, Er (d + 2) 108 (8, [some (.ref 1), some (.int (nI a)), some (.int (nI b)), some (.int (nI c)), some (.int (nI i)), o5, o6, o7, o8, o9, o10, o11, o12, o13], [], MS σ (up rv c (A % Bp i * B))) (.inl none, MS σ (up rv c (A * B)), 0) := by
    intro n
    induction n with
    | zero =>
      intro i hi o5 o6 o7 o8 o9 o10 o11 o12 o13
      rw [Nat.add_zero] at hi
      subst hi
      rw [Bp_mod hA64]
      exact b108_8 (fun _ => b108_142) (fun q => absurd (Int32.le_refl _) q)
    | succ n ih =>
      intro i hi o5 o6 o7 o8 o9 o10 o11 o12 o13
      refine b108_8 (fun q => absurd q (nI_ge (b := 64) (by omega) (by decide))) (fun _ => b108_15 k1 (inM ha (by omega)) ?_)
      rw [rdM ha (by omega), up_n hac, ← eA]
      have hx := dg_lt A i
      obtain ⟨x, ex⟩ : ∃ x, x = dg A i := ⟨_, rfl⟩
      rw [← ex] at hx ⊢
      have hsp := dg_split A i
      rw [← ex] at hsp
      have ple : A % Bp (i + 1) * B ≤ A * B := Nat.mul_le_mul_right _ (Nat.mod_le _ _)
      by_cases hx0 : x = 0
      · have hsp0 : A % Bp i = A % Bp (i + 1) := by
          rw [hsp, hx0, Nat.zero_mul, Nat.add_zero]
        rw [hsp0]
        have nxt := ih (i + 1) (by omega)
        rw [hx0]
        refine b108_35 (fun _ => b108_136 ?_) (fun _ => b108_45 (fun _ => b108_136 ?_) (fun q => absurd rfl q))
        · rw [nI_1]; exact nxt _ _ _ _ _ _ _ _ _
        · rw [nI_1]; exact nxt _ _ _ _ _ _ _ _ _
      · have hBi : B < Bp (64 - i) := by
          have h1 : Bp i ≤ A := by
            have : dg A i * Bp i ≤ A := by
              have := Nat.mod_le A (Bp (i + 1))
              rw [← ex]
              omega
            rw [← ex] at this
            have : 1 * Bp i ≤ x * Bp i := Nat.mul_le_mul_right _ (Nat.pos_of_ne_zero hx0)
            omega
          have h2 : Bp i * B ≤ A * B := Nat.mul_le_mul_right _ h1
          have h3 : Bp i * B < Bp i * Bp (64 - i) := by
            rw [← Bp_add, show i + (64 - i) = 64 by omega]
            omega
          exact Nat.lt_of_mul_lt_mul_left h3
        have xz : ¬ lN x = 0 := by
          rw [lN_ne0 hx]
          exact hx0
        have inner : ∀ r t U c2, t + r = 64 - i → c2 < 4294967296 → U < Bp 64 → U + c2 * Bp (i + t) = A % Bp i * B + x * Bp i * (B % Bp t) → ∀ o10 o11 o12 o13, Er (d + 2) 108 (35, [some (.ref 1), some (.int (nI a)), some (.int (nI b)), some (.int (nI c)), some (.int (nI i)), some (.long (lN c2)), none, some (.long (lN x)), none, some (.int (nI t)), o10, o11, o12, o13], [], MS σ (up rv c U)) (.inl none, MS σ (up rv c (A * B)), 0) := by
          intro r
          induction r with
          | zero =>
            intro t U c2 ht hc2 hU e1 o10 o11 o12 o13
            rw [Nat.add_zero] at ht
            subst ht
            rw [Bp_mod hBi, show i + (64 - i) = 64 by omega, ← Nat.add_mul, ← hsp] at e1
            have hc0 : c2 = 0 := by
              rcases Nat.eq_zero_or_pos c2 with q | q
              · exact q
              · have := Nat.le_mul_of_pos_left (Bp 64) q
                omega
            subst hc0
            have hU2 : U = A % Bp (i + 1) * B := by omega
            subst hU2
            refine b108_35 (fun _ => b108_136 ?_) (fun q => absurd (by rw [nI_add, show i + (64 - i) = 64 by omega]; exact Int32.le_refl _) q)
            rw [nI_1]
            exact ih (i + 1) (by omega) _ _ _ _ _ _ _ _ _
          | succ r ihr =>
            intro t U c2 ht hc2 hU e1 o10 o11 o12 o13
            refine b108_35 (fun q => absurd q (by rw [nI_add]; exact nI_ge (b := 64) (by omega) (by decide))) (fun _ => b108_45 (fun q => absurd q xz) (fun _ => ?_))
            have hy := dg_lt B t
            have hu := dg_lt U (i + t)
            have hxy : x * dg B t ≤ 4294967295 * 4294967295 := Nat.mul_le_mul (by omega) (by omega)
            have i3 : (64 : Int32) * nI c + nI i + nI t = (64 : Int32) * nI c + nI (i + t) := by rw [ix, ix, nI_add, Nat.add_assoc]
            refine b108_52 k1 (by rw [i3]; exact inM hc (by omega)) (inM hb (by omega)) ?_
            have w := wrM (σ := σ) (rv := up rv c U) (r := c) (k := i + t) (x := (dg U (i + t) + x * dg B t + c2) % 4294967296) hc (by omega) (Nat.mod_lt _ (by decide))
            rw [up_s, up_up] at w
            have ev : lN (dg U (i + t)) + lN x * lN (dg B t) = lN (dg U (i + t) + x * dg B t) := by rw [lN_mul, lN_add]
            rw [i3, rdM hc (by omega), rdM hb (by omega), up_s, up_n hbc, ← eB, ev, m32, lN_add, m32, ushr32 (by omega), ushr32 (by omega), lN_add, nI_1]
            have e2 : ((dg U (i + t) + x * dg B t) % 4294967296 + c2) % 4294967296 = (dg U (i + t) + x * dg B t + c2) % 4294967296 := by omega
            have e3 : (dg U (i + t) + x * dg B t) / 4294967296 + ((dg U (i + t) + x * dg B t) % 4294967296 + c2) / 4294967296 = (dg U (i + t) + x * dg B t + c2) / 4294967296 := by omega
            rw [e2, e3, w]
            refine ihr (t + 1) _ _ (by omega) (by omega) (sd_lt hU (by omega) (Nat.mod_lt _ (by decide))) ?_ _ _ _ _
            have ds := dstep U (i + t) (dg U (i + t) + x * dg B t + c2)
            rw [Nat.add_mul (dg U (i + t) + x * dg B t), Nat.add_mul (dg U (i + t))] at ds
            have e4 : x * Bp i * (B % Bp (t + 1)) = x * Bp i * (B % Bp t) + x * dg B t * Bp (i + t) := by
              rw [dg_split B t, Nat.mul_add, Bp_add, x4]
            rw [← Nat.add_assoc i t 1]
            omega
        refine inner (64 - i) 0 _ 0 (by omega) (by decide) ?_ ?_ _ _ _ _
        · exact Nat.lt_of_le_of_lt (Nat.mul_le_mul_right _ (Nat.mod_le _ _)) hs
        · rw [Bp_0, Nat.mod_one]
          omega
  have := outer 64 0 (by omega) none none none none none none none none none
  rw [Bp_0, Nat.mod_one, Nat.zero_mul] at this
  exact this
theorem bln_dg {v k : Nat} (hv : v < Bp (k + 1)) (h0 : dg v k ≠ 0) : bln v = 32 * k + bln (dg v k) := by
  rw [dg_top hv] at h0 ⊢
  have hq : 0 < v / 2 ^ (32 * k) := Nat.pos_of_ne_zero h0
  have hb := bln_pos.mpr hq
  refine bln_eq ?_ ?_ (by omega)
  · have := bln_lt (v := v / 2 ^ (32 * k))
    rw [Nat.div_lt_iff_lt_mul (Nat.two_pow_pos _), ← Nat.pow_add, Nat.add_comm] at this
    exact this
  · have := bln_ge hq
    rw [Nat.le_div_iff_mul_le (Nat.two_pow_pos _), ← Nat.pow_add] at this
    rw [show 32 * k + bln (v / 2 ^ (32 * k)) - 1 = bln (v / 2 ^ (32 * k)) - 1 + 32 * k by omega]
    exact this
theorem m_lenM (hr : r < 16) (hB : BM rv) : Er (d + 1) 91 (0, ent 91 [.ref 1, .int (nI r)], [], MS σ rv) (.inl (some (.int (nI (bln (rv r))))), MS σ rv, 0) := by
  have bits : ∀ k, k < 64 → rv r < Bp (k + 1) → dg (rv r) k ≠ 0 → Er (d + 1) 91 (23, [some (.ref 1), some (.int (nI r)), some (.int (nI k)), none], [], MS σ rv) (.inl (some (.int (nI (bln (rv r))))), MS σ rv, 0) := by
    intro k hk hv h0
    have hD := dg_lt (rv r) k
    have e := bln_dg hv h0
    have hD0 : 0 < dg (rv r) k := Nat.pos_of_ne_zero h0
    have loop : ∀ m n, n = bln (dg (rv r) k) + m → n ≤ 32 → Er (d + 1) 91 (26, [some (.ref 1), some (.int (nI r)), some (.int (nI k)), some (.int (nI n))], [], MS σ rv) (.inl (some (.int (nI (bln (rv r))))), MS σ rv, 0) := by
      intro m
      have hb0 := bln_pos.mpr hD0
      have ev : ∀ n, 0 < n → n ≤ 32 → (gal (MS σ rv) (fr 1 4) ((64 : Int32) * nI r + nI k).toNatClampNeg >>> ((nI n - 1).toInt64 &&& 63)) &&& (1 : Int64) = lN (dg (rv r) k / 2 ^ (n - 1) % 2) := by
        intro n h0 hn
        rw [rdM hr hk, show nI n - 1 = nI (n - 1) from pk_sub (b := 1) h0, shr_N (n - 1) (lN_dg63 _ _) rfl (by omega)]
        exact and_N (m := 1) 1 rfl (by decide)
      induction m with
      | zero =>
        intro n hn h32
        rw [Nat.add_zero] at hn
        refine b91_26 k1 (inM hr hk) (fun _ => ?_) (fun q => ?_)
        · have t := b91_54 (d := d) (x0 := 1) (x1 := nI r) (x2 := nI k) (x3 := nI n) (σ := MS σ rv)
          rw [show (32 : Int32) = nI 32 from rfl, pk_mul, nI_add, hn, ← e] at t
          rw [hn]
          exact t
        · rw [ev n (by omega) h32] at q
          have q2 := (lN_inj (b := 0) (by omega) (by decide)).mp q
          have h1 := bln_ge hD0
          have h2 := bln_lt (v := dg (rv r) k)
          rw [← hn] at h1 h2
          have : dg (rv r) k / 2 ^ (n - 1) = 1 := by
            apply Nat.div_eq_of_lt_le
            · rw [Nat.one_mul]; exact h1
            · rw [show 2 * 2 ^ (n - 1) = 2 ^ n by rw [← Nat.pow_succ', show (n - 1).succ = n by omega]]
              exact h2
          omega
      | succ m ih =>
        intro n hn h32
        refine b91_26 k1 (inM hr hk) (fun q => ?_) (fun _ => b91_48 ?_)
        · rw [ev n (by omega) h32] at q
          have h2 : dg (rv r) k < 2 ^ (n - 1) := bln_le.mp (by omega)
          rw [Nat.div_eq_of_lt h2] at q
          exact absurd rfl q
        · rw [add_m1, show nI n - 1 = nI (n - 1) from pk_sub (b := 1) (by omega)]
          exact ih (n - 1) (by omega) (by omega)
    have hl32 : bln (dg (rv r) k) ≤ 32 := by rw [bln_le]; exact hD
    exact b91_23 (loop (32 - bln (dg (rv r) k)) 32 (by omega) (by decide))
  have loop : ∀ m, m ≤ 64 → rv r < Bp m → Er (d + 1) 91 (3, [some (.ref 1), some (.int (nI r)), some (.int (nI m - 1)), none], [], MS σ rv) (.inl (some (.int (nI (bln (rv r))))), MS σ rv, 0) := by
    intro m
    induction m with
    | zero =>
      intro _ h
      have : rv r = 0 := by
        rw [Bp_0] at h
        omega
      rw [this]
      exact b91_3 (fun _ => b91_67) (fun q => absurd (by decide) q)
    | succ m ih =>
      intro hm h
      rw [nI_pred]
      refine b91_3 (fun q => absurd q (nI_pos (by omega))) (fun _ => b91_7 k1 (inM hr (by omega)) (fun q => ?_) (fun q => ?_))
      · rw [rdM hr (by omega), lN_ne0 (dg_lt _ _)] at q
        refine b91_61 ?_
        rw [add_m1]
        exact ih (by omega) ((dg_top0 h).mp q)
      · rw [rdM hr (by omega), lN_ne0 (dg_lt _ _)] at q
        exact bits m (by omega) h q
  exact b91_0 (loop 64 (Nat.le_refl _) (hB r))
theorem dg_bit (v i : Nat) : dg v (i / 32) / 2 ^ (i % 32) % 2 = v / 2 ^ i % 2 := by
  have e : v / 2 ^ i = v / Bp (i / 32) / 2 ^ (i % 32) := by
    unfold Bp
    rw [Nat.div_div_eq_div_mul, ← Nat.pow_add, show 32 * (i / 32) + i % 32 = i by omega]
  rw [e, dg_Bp]
  obtain ⟨V, hV⟩ : ∃ V, V = v / Bp (i / 32) := ⟨_, rfl⟩
  rw [← hV]
  have h : 2 ^ (i % 32) * 2 ^ (32 - i % 32) = 4294967296 := by rw [← Nat.pow_add, show i % 32 + (32 - i % 32) = 32 by omega]
  have h2 : V = V % 4294967296 + 2 ^ (i % 32) * (2 ^ (32 - i % 32) * (V / 4294967296)) := by
    rw [← Nat.mul_assoc, h]
    exact (Nat.mod_add_div V 4294967296).symm
  conv => rhs; rw [h2]
  rw [Nat.add_mul_div_left _ _ (Nat.two_pow_pos _)]
  have h3 : 2 ^ (32 - i % 32) = 2 * 2 ^ (32 - i % 32 - 1) := by rw [← Nat.pow_succ', show (32 - i % 32 - 1).succ = 32 - i % 32 by omega]
  rw [h3, Nat.mul_assoc, Nat.add_mul_mod_self_left]
theorem m_bit {i : Nat} (hr : r < 16) (hi : i < 2048) : Er (d + 1) 92 (0, ent 92 [.ref 1, .int (nI r), .int (nI i)], [], MS σ rv) (.inl (some (.long (lN (rv r / 2 ^ i % 2)))), MS σ rv, 0) := by
  have e1 : nI i / 32 = nI (i / 32) := pk_div (d := 32) (by omega) (by decide) (by decide)
  have e2 : nI i - nI i / 32 * 32 = nI (i % 32) := pk_rem (d := 32) (by omega) (by decide) (by decide)
  have t := b92_0 (d := d) (x0 := 1) (x1 := nI r) (x2 := nI i) (σ := MS σ rv) k1 (by decide) (by rw [e1]; exact inM hr (by omega))
  rw [e2, e1, rdM hr (by omega), shr_N (i % 32) (lN_dg63 _ _) rfl (by omega), show ∀ n : Nat, lN n &&& (1 : Int64) = lN (n % 2) from fun n => and_N (m := 1) 1 rfl (by decide), dg_bit] at t
  exact t
theorem m_half (hr : r < 16) (hB : BM rv) : Er (d + 1) 85 (0, ent 85 [.ref 1, .int (nI r)], [], MS σ rv) (.inl none, MS σ (up rv r (rv r / 2)), 0) := by
  obtain ⟨v, hv⟩ : ∃ v, v = rv r := ⟨_, rfl⟩
  have hvB : v < Bp 64 := by rw [hv]; exact hB r
  rw [← hv]
  have loop : ∀ k U, k ≤ 64 → U < Bp 64 → U / Bp k = v / 2 / Bp k → U % Bp k = v % Bp k → ∀ o5 o6, Er (d + 1) 85 (6, [some (.ref 1), some (.int (nI r)), some (.long (lN (v / Bp k % 2))), none, some (.int (nI k - 1)), o5, o6], [], MS σ (up rv r U)) (.inl none, MS σ (up rv r (v / 2)), 0) := by
    intro k
    induction k with
    | zero =>
      intro U _ hU h1 h2 o5 o6
      rw [Bp_0, Nat.div_one, Nat.div_one] at h1
      rw [h1]
      exact b85_6 (fun _ => b85_57) (fun q => absurd (by decide) q)
    | succ k ih =>
      intro U hk hU h1 h2 o5 o6
      rw [nI_pred]
      refine b85_6 (fun q => absurd q (nI_pos (by omega))) (fun _ => b85_11 k1 (inM hr (by omega)) ?_)
      have dU : dg U k = dg v k := by
        rw [← dg_mod U (Nat.lt_succ_self k), h2, dg_mod v (Nat.lt_succ_self k)]
      have hd := dg_lt v k
      have c2 : v / Bp (k + 1) % 2 < 2 := Nat.mod_lt _ (by decide)
      have eor : (lN (dg v k) >>> ((1 : Int32).toInt64 &&& 63)) ||| (lN (v / Bp (k + 1) % 2) <<< ((31 : Int32).toInt64 &&& 63)) = lN (dg (v / 2) k) := by
        rw [shr_N (s := 1) 1 (lN_dg63 _ _) rfl (by decide), shl_N (s := 31) 31 rfl (by decide), Int64.or_comm, or_N (k := 31) (by omega) (by omega)]
        congr 1
        rw [dg_Bp (v / 2), Nat.div_div_eq_div_mul v 2, Nat.mul_comm 2, ← Nat.div_div_eq_div_mul v (Bp k) 2, dg_Bp v, Bp_succ, ← Nat.div_div_eq_div_mul]
        omega
      have elow : lN (dg v k) &&& (1 : Int64) = lN (v / Bp k % 2) := by
        rw [show lN (dg v k) &&& (1 : Int64) = lN (dg v k % 2) from and_N (m := 1) 1 rfl (by decide), dg_Bp]
        congr 1
        omega
      have w := wrM (σ := σ) (rv := up rv r U) (r := r) (k := k) (x := dg (v / 2) k) hr (by omega) (dg_lt _ _)
      rw [up_s, up_up] at w
      rw [rdM hr (by omega), up_s, dU, eor, elow, w, add_m1]
      refine ih _ (by omega) (sd_lt hU (by omega) (dg_lt _ _)) ?_ ?_ _ _
      · rw [div_dg (sd U k _) k, sd_div (Nat.lt_succ_self k) (dg_lt _ _), sd_dg _ _ (dg_lt _ _), if_pos rfl, h1, ← div_dg]
      · rw [sd_mod]
        have m1 : U % Bp (k + 1) % Bp k = U % Bp k := Nat.mod_mod_of_dvd U ⟨4294967296, Bp_succ k⟩
        have m2 : v % Bp (k + 1) % Bp k = v % Bp k := Nat.mod_mod_of_dvd v ⟨4294967296, Bp_succ k⟩
        rw [← m1, h2, m2]
  have h2 : v / 2 < Bp 64 := Nat.lt_of_le_of_lt (Nat.div_le_self _ _) hvB
  have := loop 64 v (Nat.le_refl _) hvB (by rw [div_Bp_lt hvB, div_Bp_lt h2]) rfl none none
  rw [div_Bp_lt hvB] at this
  rw [hv, up_self, ← hv] at this
  exact b85_0 this
theorem m_up {n : Nat} (hr : r < 16) (hB : BM rv) (hn : n < 2048) (hs : rv r * 2 ^ n < Bp 64) : Er (d + 1) 89 (0, ent 89 [.ref 1, .int (nI r), .int (nI n)], [], MS σ rv) (.inl none, MS σ (up rv r (rv r * 2 ^ n)), 0) := by
  obtain ⟨v, hv⟩ : ∃ v, v = rv r := ⟨_, rfl⟩
  have hvB : v < Bp 64 := by rw [hv]; exact hB r
  rw [← hv] at hs ⊢
  refine b89_0 (by decide) ?_
  rw [show (32 : Int32) = nI 32 from rfl, pk_rem (by omega) (by decide) (by decide), pk_div (by omega) (by decide) (by decide)]
  have loop : ∀ k U, k ≤ 64 → U < Bp 64 → U / Bp k = v * 2 ^ n / Bp k → U % Bp k = v % Bp k → ∀ o6 o7 o8 o9, Er (d + 1) 89 (15, [some (.ref 1), some (.int (nI r)), some (.int (nI n)), some (.int (nI (n / 32))), some (.int (nI (n % 32))), some (.int (nI k - 1)), o6, o7, o8, o9], [], MS σ (up rv r U)) (.inl none, MS σ (up rv r (v * 2 ^ n)), 0) := by
    intro k
    induction k with
    | zero =>
      intro U _ hU h1 h2 o6 o7 o8 o9
      rw [Bp_0, Nat.div_one, Nat.div_one] at h1
      rw [h1]
      exact b89_15 (fun _ => b89_114) (fun q => absurd (by decide) q)
    | succ k ih =>
      intro U hk hU h1 h2 o6 o7 o8 o9
      rw [nI_pred]
      refine b89_15 (fun q => absurd q (nI_pos (by omega))) (fun _ => ?_)
      have dU : ∀ j, j ≤ k → dg U j = dg v j := by
        intro j hj
        rw [← dg_mod U (show j < k + 1 by omega), h2, dg_mod v (show j < k + 1 by omega)]
      have s1 : nI k - nI (n / 32) < 0 ↔ ¬ n / 32 ≤ k := by
        rw [sub_iZ, iZ0, iZ_lt (by omega) (by omega) (by decide) (by decide)]
        omega
      have s2 : nI k - nI (n / 32) - 1 < 0 ↔ ¬ n / 32 + 1 ≤ k := by
        rw [sub_iZ, show (1 : Int32) = iZ 1 from rfl, iZ_sub, iZ0, iZ_lt (by omega) (by omega) (by decide) (by decide)]
        omega
      have last : Er (d + 1) 89 (76, [some (.ref 1), some (.int (nI r)), some (.int (nI n)), some (.int (nI (n / 32))), some (.int (nI (n % 32))), some (.int (nI k)), some (.long (lN (if n / 32 ≤ k then dg v (k - n / 32) else 0))), none, o8, o9], [.long (lN (if n / 32 + 1 ≤ k then dg v (k - n / 32 - 1) else 0))], MS σ (up rv r U)) (.inl none, MS σ (up rv r (v * 2 ^ n)), 0) := by
        refine b89_76 k1 (inM hr (by omega)) ?_
        have w := wrM (σ := σ) (rv := up rv r U) (r := r) (k := k) (x := dg (v * 2 ^ n) k) hr (by omega) (dg_lt _ _)
        rw [up_s, up_up] at w
        rw [add_m1, show (32 : Int32) - nI (n % 32) = nI (32 - n % 32) from pk_sub (a := 32) (by omega), shr_N (32 - n % 32) (Nat.lt_trans (if_dg _ _ _) (by decide)) rfl (by omega), or32 (if_dg _ _ _) (by omega) (cut_lt (if_dg _ _ _) (by omega)), m32, up_nat, w]
        refine ih _ (by omega) (sd_lt hU (by omega) (dg_lt _ _)) ?_ ?_ _ _ _ _
        · rw [div_dg (sd U k _) k, sd_div (Nat.lt_succ_self k) (dg_lt _ _), sd_dg _ _ (dg_lt _ _), if_pos rfl, h1, ← div_dg]
        · rw [sd_mod]
          have m1 : U % Bp (k + 1) % Bp k = U % Bp k := Nat.mod_mod_of_dvd U ⟨4294967296, Bp_succ k⟩
          have m2 : v % Bp (k + 1) % Bp k = v % Bp k := Nat.mod_mod_of_dvd v ⟨4294967296, Bp_succ k⟩
          rw [← m1, h2, m2]
      have mid : ∀ o6 o7, Er (d + 1) 89 (45, [some (.ref 1), some (.int (nI r)), some (.int (nI n)), some (.int (nI (n / 32))), some (.int (nI (n % 32))), some (.int (nI k)), o6, o7, o8, o9], [.long (lN (if n / 32 ≤ k then dg v (k - n / 32) else 0))], MS σ (up rv r U)) (.inl none, MS σ (up rv r (v * 2 ^ n)), 0) := by
        intro o6 o7
        refine b89_45 (fun q => ?_) (fun q => ?_)
        · rw [s2] at q
          rw [if_neg q] at last
          exact b89_75 last
        · rw [s2] at q
          have q2 : n / 32 + 1 ≤ k := by omega
          have ei : (64 : Int32) * nI r + nI k - nI (n / 32) - 1 = (64 : Int32) * nI r + nI (k - n / 32 - 1) := by
            rw [ix, ix, pk_sub (by omega), show (1 : Int32) = nI 1 from rfl, pk_sub (by omega)]
            congr 1
            omega
          refine b89_56 k1 (by rw [ei]; exact inM hr (by omega)) ?_
          rw [if_pos q2] at last
          rw [ei, rdM hr (by omega), up_s, dU _ (by omega)]
          exact last
      refine b89_20 (fun q => ?_) (fun q => ?_)
      · rw [s1] at q
        have mid2 := mid o6 o7
        rw [if_neg q] at mid2
        exact b89_44 mid2
      · rw [s1] at q
        have q2 : n / 32 ≤ k := by omega
        have ei : (64 : Int32) * nI r + nI k - nI (n / 32) = (64 : Int32) * nI r + nI (k - n / 32) := by
          rw [ix, ix, pk_sub (by omega)]
          congr 1
          omega
        refine b89_27 k1 (by rw [ei]; exact inM hr (by omega)) ?_
        have mid2 := mid o6 o7
        rw [if_pos q2] at mid2
        rw [ei, rdM hr (by omega), up_s, dU _ (by omega)]
        exact mid2
  have := loop 64 v (Nat.le_refl _) hvB (by rw [div_Bp_lt hvB, div_Bp_lt hs]) rfl none none none none
  rw [hv, up_self, ← hv] at this
  exact this
end
