/-! Naturals: shifts -/
theorem spl (V s : Nat) (hs : s ≤ 32) : V / 2 ^ s % 4294967296 = (V / 4294967296 % 4294967296 * 2 ^ (32 - s) + V % 4294967296 / 2 ^ s) % 4294967296 := by
  have hB : 2 ^ s * 2 ^ (32 - s) = 4294967296 := by
    rw [← Nat.pow_add, show s + (32 - s) = 32 by omega]
  have e : V / 2 ^ s = V / 4294967296 * 2 ^ (32 - s) + V % 4294967296 / 2 ^ s := by
    have h := Nat.mod_add_div V 4294967296
    have h2 : V = V % 4294967296 + 2 ^ s * (V / 4294967296 * 2 ^ (32 - s)) := by
      rw [Nat.mul_left_comm, hB, Nat.mul_comm (V / 4294967296)]
      exact h.symm
    conv => lhs; rw [h2]
    rw [Nat.add_mul_div_left _ _ (Nat.two_pow_pos s), Nat.add_comm]
  have m : V / 4294967296 * 2 ^ (32 - s) % 4294967296 = V / 4294967296 % 4294967296 * 2 ^ (32 - s) % 4294967296 := (Nat.mod_mul_mod _ _ _).symm
  rw [e, Nat.add_mod, m, ← Nat.add_mod]
theorem or32 {a c t : Nat} (ha : a < 4294967296) (ht : t ≤ 32) (hc : c < 2 ^ t) : (lN a <<< ((nI t).toInt64 &&& 63) ||| lN c) = lN (a * 2 ^ t + c) := by
  rw [shl_N t rfl (by omega)]
  refine or_N hc ?_
  have h1 : a * 2 ^ t ≤ a * 2 ^ 32 := Nat.mul_le_mul_left _ (Nat.pow_le_pow_right (by decide) ht)
  omega
theorem cut_lt {b t : Nat} (hb : b < 4294967296) (ht : t ≤ 32) : b / 2 ^ (32 - t) < 2 ^ t := by
  rw [Nat.div_lt_iff_lt_mul (Nat.two_pow_pos _), ← Nat.pow_add, show t + (32 - t) = 32 by omega]
  exact hb
/-- the word at j of a number shifted up -/
theorem up_nat (v n j : Nat) : ((if n / 32 ≤ j then dg v (j - n / 32) else 0) * 2 ^ (n % 32) + (if n / 32 + 1 ≤ j then dg v (j - n / 32 - 1) else 0) / 2 ^ (32 - n % 32)) % 4294967296 = dg (v * 2 ^ n) j := by
  have hn : n = 32 * (n / 32) + n % 32 := by omega
  obtain ⟨f, hf⟩ : ∃ f, f = n / 32 := ⟨_, rfl⟩
  obtain ⟨t, ht⟩ : ∃ t, t = n % 32 := ⟨_, rfl⟩
  rw [← hf, ← ht] at hn ⊢
  have ht2 : t < 32 := by omega
  rcases Nat.lt_trichotomy j f with h | h | h
  · rw [if_neg (by omega), if_neg (by omega), Nat.zero_div, Nat.zero_mul, Nat.zero_add, Nat.zero_mod]
    unfold dg
    have e : v * 2 ^ n = 2 ^ (32 * j) * (v * 2 ^ (n - 32 * j - 32) * 4294967296) := by
      have : 2 ^ n = 2 ^ (32 * j) * (2 ^ (n - 32 * j - 32) * 2 ^ 32) := by
        rw [← Nat.pow_add, ← Nat.pow_add]
        congr 1
        omega
      rw [this]
      ac_rfl
    rw [e, Nat.mul_div_cancel_left _ (Nat.two_pow_pos _), Nat.mul_mod_left]
  · subst h
    rw [if_pos (Nat.le_refl _), if_neg (by omega), Nat.zero_div, Nat.add_zero, Nat.sub_self, dg_zero]
    unfold dg
    have e : v * 2 ^ n = 2 ^ (32 * j) * (v * 2 ^ t) := by
      rw [hn, Nat.pow_add]
      ac_rfl
    rw [e, Nat.mul_div_cancel_left _ (Nat.two_pow_pos _), Nat.mod_mul_mod]
  · obtain ⟨m, rfl⟩ : ∃ m, j = f + 1 + m := ⟨j - f - 1, by omega⟩
    rw [if_pos (by omega), if_pos (by omega), show f + 1 + m - f = m + 1 by omega, show m + 1 - 1 = m by omega]
    have e1 : dg (v * 2 ^ n) (f + 1 + m) = v / Bp m / 2 ^ (32 - t) % 4294967296 := by
      unfold dg
      have : 2 ^ (32 * (f + 1 + m)) = Bp m * 2 ^ (32 - t) * 2 ^ n := by
        unfold Bp
        rw [← Nat.pow_add, ← Nat.pow_add]
        congr 1
        omega
      rw [this, Nat.mul_div_mul_right _ _ (Nat.two_pow_pos n), Nat.div_div_eq_div_mul]
    rw [e1, spl _ (32 - t) (by omega), show 32 - (32 - t) = t by omega]
    have e2 : v / Bp m / 4294967296 % 4294967296 = dg v (m + 1) := by
      rw [Nat.div_div_eq_div_mul, ← Bp_succ, dg_Bp]
    rw [e2, ← dg_Bp]
/-- the word at j of a number shifted down -/
theorem down_nat (v n j : Nat) : (dg v (j + n / 32 + 1) * 2 ^ (32 - n % 32) + dg v (j + n / 32) / 2 ^ (n % 32)) % 4294967296 = dg (v / 2 ^ n) j := by
  have hn : n = 32 * (n / 32) + n % 32 := by omega
  obtain ⟨f, hf⟩ : ∃ f, f = n / 32 := ⟨_, rfl⟩
  obtain ⟨t, ht⟩ : ∃ t, t = n % 32 := ⟨_, rfl⟩
  rw [← hf, ← ht] at hn ⊢
  have e1 : dg (v / 2 ^ n) j = v / Bp (j + f) / 2 ^ t % 4294967296 := by
    unfold dg Bp
    rw [Nat.div_div_eq_div_mul, Nat.div_div_eq_div_mul, ← Nat.pow_add, ← Nat.pow_add]
    congr 3
    omega
  rw [e1, spl _ t (by omega)]
  have e2 : v / Bp (j + f) / 4294967296 % 4294967296 = dg v (j + f + 1) := by
    rw [Nat.div_div_eq_div_mul, ← Bp_succ, dg_Bp]
  rw [e2, ← dg_Bp]
theorem wat_if {f : Nat → Int64} {v j a : Nat} (hf : ∀ x, x ≤ j → f x = dgs v x) (hj : j < 20) : wat f ((j : Int) - a) = lN (if a ≤ j then dg v (j - a) else 0) := by
  unfold wat
  by_cases h : a ≤ j
  · rw [if_pos (by omega), if_pos h]
    have : ((j : Int) - a).toNat = j - a := by omega
    rw [this, hf _ (by omega)]
    rfl
  · rw [if_neg (by omega), if_neg h]
    rfl
theorem sub_iZ (a b : Nat) : nI a - nI b = iZ ((a : Int) - b) := by rw [← iZ_N, ← iZ_N, iZ_sub]
theorem bw {b w : Nat} (hb : b < 4294967296) : b / 2 ^ w < 2 ^ 64 := Nat.lt_of_le_of_lt (Nat.div_le_self _ _) (by omega)
theorem if_dg (v j : Nat) (p : Prop) [Decidable p] : (if p then dg v j else 0) < 4294967296 := by
  by_cases h : p
  · rw [if_pos h]; exact dg_lt _ _
  · rw [if_neg h]; decide
theorem c_shiftUp {d i v n : Nat} {σ : St} (hi : NI i) (h : Nt σ i v) (hn31 : n < 2 ^ 31) (hs : v * 2 ^ n < 2 ^ 640) : Er (d + 2) 22 (0, ent 22 [.ref i, .int (nI n)], [], σ) (.inl none, sN σ i (v * 2 ^ n), 0) := by
  have hn := n20 h.2.2
  refine b22_0 (fun g => ?_) (fun g => ?_)
  · refine b22_5 (by decide) hi.k ?_
    rw [h.2.1, show (32 : Int32) = nI 32 from rfl, pk_rem hn31 (by decide) (by decide), pk_div hn31 (by decide) (by decide), nI_add, nI_1, show (20 : Int32) = nI 20 from rfl, imin (by omega) (by omega)]
    obtain ⟨e, he⟩ : ∃ e, e = min (nd v + n / 32 + 1) 20 := ⟨_, rfl⟩
    rw [← he]
    have he20 : e ≤ 20 := by omega
    have hlt : v * 2 ^ n < Bp e := by
      rcases (by omega : e = 20 ∨ e = nd v + n / 32 + 1) with q | q
      · rw [q]; exact hs
      · rw [q, Nat.add_assoc, Bp_add]
        have h1 := nd_self v
        have h2 : 2 ^ n ≤ Bp (n / 32 + 1) := Nat.pow_le_pow_right (by decide) (by omega)
        exact Nat.lt_of_lt_of_le (Nat.mul_lt_mul_of_pos_right h1 (Nat.two_pow_pos n)) (Nat.mul_le_mul_left _ h2)
    have hve : v < Bp e := Nat.lt_of_le_of_lt (Nat.le_mul_of_pos_right v (Nat.two_pow_pos n)) hlt
    have loop : ∀ k, k ≤ e → Er (d + 2) 22 (36, [some (.ref i), some (.int (nI n)), some (.int (nI (n / 32))), some (.int (nI (n % 32))), some (.int (nI e)), some (.int (nI k - 1))], [], rN σ i (fun j => if k ≤ j ∧ j < e then dgs (v * 2 ^ n) j else dgs v j) (nI (nd v))) (.inl none, sN σ i (v * 2 ^ n), 0) := by
      intro k
      induction k with
      | zero =>
        intro _
        refine b22_36 (fun _ => ?_) (fun q => absurd (by decide) q)
        have ef : (fun j => if 0 ≤ j ∧ j < e then dgs (v * 2 ^ n) j else dgs v j) = dgs (v * 2 ^ n) := by
          funext j
          by_cases hj : j < e
          · rw [if_pos ⟨Nat.zero_le _, hj⟩]
          · rw [if_neg (by omega), dgs_at, dgs_at, dg_z (n := e) hlt (by omega), dg_z (n := e) hve (by omega)]
        rw [ef]
        exact b22_84 hi.k (mes hi he20 hlt) b22_90
      | succ j ih =>
        intro hk
        rw [nI_pred]
        refine b22_36 (fun q => absurd q (nI_pos (by omega))) (fun _ => ?_)
        have hf : ∀ x, x ≤ j → (fun x => if j + 1 ≤ x ∧ x < e then dgs (v * 2 ^ n) x else dgs v x) x = dgs v x := by
          intro x hx
          show (if j + 1 ≤ x ∧ x < e then dgs (v * 2 ^ n) x else dgs v x) = _
          rw [if_neg (by omega)]
        refine b22_41 (σ2 := rN σ i (fun x => if j + 1 ≤ x ∧ x < e then dgs (v * 2 ^ n) x else dgs v x) (nI (nd v))) (r := lN (if n / 32 ≤ j then dg v (j - n / 32) else 0)) hi.k ?_ ?_
        · rw [sub_iZ]
          have := c_wordAt (d := d) (z := (j : Int) - (n / 32 : Nat)) (σ := rN σ i (fun x => if j + 1 ≤ x ∧ x < e then dgs (v * 2 ^ n) x else dgs v x) (nI (nd v))) hi (by omega) (by omega)
          rw [rN_f, wat_if hf (by omega)] at this
          exact this
        refine b22_55 (σ2 := rN σ i (fun x => if j + 1 ≤ x ∧ x < e then dgs (v * 2 ^ n) x else dgs v x) (nI (nd v))) (r := lN (if n / 32 + 1 ≤ j then dg v (j - n / 32 - 1) else 0)) hi.k ?_ ?_
        · rw [sub_iZ, show (1 : Int32) = iZ 1 from rfl, iZ_sub]
          have := c_wordAt (d := d) (z := (j : Int) - (n / 32 : Nat) - 1) (σ := rN σ i (fun x => if j + 1 ≤ x ∧ x < e then dgs (v * 2 ^ n) x else dgs v x) (nI (nd v))) hi (by omega) (by omega)
          rw [rN_f, show (j : Int) - (n / 32 : Nat) - 1 = (j : Int) - ((n / 32 + 1 : Nat) : Int) by omega, wat_if hf (by omega), ← Nat.sub_sub] at this
          rw [show (j : Int) - (n / 32 : Nat) - 1 = (j : Int) - ((n / 32 + 1 : Nat) : Int) by omega]
          exact this
        refine b22_67 (by rw [hi.f]; exact hi.f ▸ hi.w (by omega)) ?_
        rw [add_m1, show (32 : Int32) = nI 32 from rfl, pk_sub (by omega), ushr_N (32 - n % 32) (Nat.lt_trans (if_dg _ _ _) (by decide)) rfl (by omega), or32 (if_dg _ _ _) (by omega) (cut_lt (if_dg _ _ _) (by omega)), m32, up_nat, hi.f, nI_32 (by omega), rN_sal]
        have ef : vp_updL (fun x => if j + 1 ≤ x ∧ x < e then dgs (v * 2 ^ n) x else dgs v x) j (lN (dg (v * 2 ^ n) j)) = fun x => if j ≤ x ∧ x < e then dgs (v * 2 ^ n) x else dgs v x := by
          funext x
          unfold vp_updL
          by_cases hx : x = j
          · subst hx
            rw [if_pos rfl, if_pos (by omega)]
            rfl
          · rw [if_neg hx]
            show (if j + 1 ≤ x ∧ x < e then dgs (v * 2 ^ n) x else dgs v x) = _
            by_cases h2 : j ≤ x ∧ x < e
            · rw [if_pos (by omega), if_pos h2]
            · rw [if_neg (by omega), if_neg h2]
        rw [ef]
        exact ih (by omega)
    have := loop e (Nat.le_refl _)
    have ef : (fun j => if e ≤ j ∧ j < e then dgs (v * 2 ^ n) j else dgs v j) = dgs v := by
      funext j
      rw [if_neg (by omega)]
    rw [ef, h.rN] at this
    exact this
  · have h0 : n = 0 := by
      rw [← nI_0, nI_ltI (by decide) hn31] at g
      omega
    subst h0
    rw [Nat.pow_zero, Nat.mul_one, h.self]
    exact b22_4
theorem c_shiftDown {d i v n : Nat} {σ : St} (hi : NI i) (h : Nt σ i v) (hn31 : n < 2 ^ 30) : Er (d + 2) 23 (0, ent 23 [.ref i, .int (nI n)], [], σ) (.inl none, sN σ i (v / 2 ^ n), 0) := by
  have hn := n20 h.2.2
  have hle : v / 2 ^ n < Bp (nd v) := Nat.lt_of_le_of_lt (Nat.div_le_self _ _) (nd_self v)
  refine b23_0 (fun g => ?_) (fun g => ?_)
  · refine b23_5 (by decide) ?_
    rw [show (32 : Int32) = nI 32 from rfl, pk_rem (by omega) (by decide) (by decide), pk_div (by omega) (by decide) (by decide)]
    have loop : ∀ m j, j + m = nd v → Er (d + 2) 23 (18, [some (.ref i), some (.int (nI n)), some (.int (nI (n / 32))), some (.int (nI (n % 32))), some (.int (nI j))], [], rN σ i (fun x => if x < j then dgs (v / 2 ^ n) x else dgs v x) (nI (nd v))) (.inl none, sN σ i (v / 2 ^ n), 0) := by
      intro m
      induction m with
      | zero =>
        intro j hj
        rw [Nat.add_zero] at hj
        subst hj
        refine b23_18 hi.k (fun _ => ?_) (fun q => absurd (by rw [rN_n]; exact Int32.le_refl _) q)
        have ef : (fun x => if x < nd v then dgs (v / 2 ^ n) x else dgs v x) = dgs (v / 2 ^ n) := by
          funext x
          by_cases hx : x < nd v
          · rw [if_pos hx]
          · rw [if_neg hx, dgs_at, dgs_at, dg_z (n := nd v) hle (by omega), dg_z (n := nd v) (nd_self v) (by omega)]
        rw [ef]
        refine b23_70 (σ2 := sN σ i (v / 2 ^ n)) hi.k ?_ b23_78
        rw [rN_n]
        exact mes hi hn hle
      | succ m ih =>
        intro j hj
        refine b23_18 hi.k (fun q => absurd q (by rw [rN_n]; exact nI_ge (by omega) (by omega))) (fun _ => ?_)
        have hf : ∀ x, j ≤ x → (fun x => if x < j then dgs (v / 2 ^ n) x else dgs v x) x = dgs v x := by
          intro x hx
          show (if x < j then dgs (v / 2 ^ n) x else dgs v x) = _
          rw [if_neg (by omega)]
        have rdw : ∀ x : Nat, j ≤ x → x < 2 ^ 31 → Er (d + 1) 15 (0, ent 15 [.ref i, .int (nI x)], [], rN σ i (fun x => if x < j then dgs (v / 2 ^ n) x else dgs v x) (nI (nd v))) (.inl (some (.long (lN (dg v x)))), rN σ i (fun x => if x < j then dgs (v / 2 ^ n) x else dgs v x) (nI (nd v)), 0) := by
          intro x hx hx31
          have := c_wordAt (d := d) (z := (x : Int)) (σ := rN σ i (fun x => if x < j then dgs (v / 2 ^ n) x else dgs v x) (nI (nd v))) hi (by omega) (by omega)
          rw [rN_f] at this
          have e : wat (fun x => if x < j then dgs (v / 2 ^ n) x else dgs v x) (x : Int) = lN (dg v x) := by
            rw [← wat_N h.2.2]
            unfold wat
            by_cases q : x < 20
            · rw [if_pos (by omega), if_pos (by omega), Int.toNat_natCast, hf _ hx]
            · rw [if_neg (by omega), if_neg (by omega)]
          rw [e, iZ_N] at this
          exact this
        refine b23_27 hi.k (by rw [nI_add]; exact rdw (j + n / 32) (by omega) (by omega)) ?_
        refine b23_41 hi.k (by rw [nI_add, nI_1]; exact rdw (j + n / 32 + 1) (by omega) (by omega)) ?_
        refine b23_53 (by rw [hi.f]; exact hi.f ▸ hi.w (by omega)) ?_
        have hc : dg v (j + n / 32) / 2 ^ (n % 32) < 2 ^ (32 - n % 32) := by
          have := cut_lt (b := dg v (j + n / 32)) (t := 32 - n % 32) (dg_lt _ _) (by omega)
          rw [show 32 - (32 - n % 32) = n % 32 by omega] at this
          exact this
        rw [nI_1, show (32 : Int32) = nI 32 from rfl, pk_sub (by omega), ushr_N (n % 32) (Nat.lt_trans (dg_lt _ _) (by decide)) rfl (by omega), Int64.or_comm, or32 (dg_lt _ _) (by omega) hc, m32, down_nat, hi.f, nI_32 (by omega), rN_sal]
        have ef : vp_updL (fun x => if x < j then dgs (v / 2 ^ n) x else dgs v x) j (lN (dg (v / 2 ^ n) j)) = fun x => if x < j + 1 then dgs (v / 2 ^ n) x else dgs v x := by
          funext x
          unfold vp_updL
          by_cases hx : x = j
          · subst hx
            rw [if_pos rfl, if_pos (by omega)]
            rfl
          · rw [if_neg hx]
            show (if x < j then dgs (v / 2 ^ n) x else dgs v x) = _
            by_cases h2 : x < j
            · rw [if_pos h2, if_pos (by omega)]
            · rw [if_neg h2, if_neg (by omega)]
        rw [ef]
        exact ih (j + 1) (by omega)
    have := loop (nd v) 0 (by omega)
    have ef : (fun x => if x < 0 then dgs (v / 2 ^ n) x else dgs v x) = dgs v := by
      funext j
      rw [if_neg (by omega)]
    rw [ef, h.rN] at this
    exact this
  · have h0 : n = 0 := by
      rw [← nI_0, nI_ltI (by decide) (by omega)] at g
      omega
    subst h0
    rw [Nat.pow_zero, Nat.div_one, h.self]
    exact b23_4
theorem bits_nat (v n : Nat) : (dg v (n / 32) / 2 ^ (n % 32) + dg v (n / 32 + 1) * 2 ^ (32 - n % 32) + dg v (n / 32 + 2) * 2 ^ (32 - n % 32) * 4294967296) % 2 ^ 64 = v / 2 ^ n % 2 ^ 64 := by
  have hn : n = 32 * (n / 32) + n % 32 := by omega
  obtain ⟨f, hf⟩ : ∃ f, f = n / 32 := ⟨_, rfl⟩
  obtain ⟨t, ht⟩ : ∃ t, t = n % 32 := ⟨_, rfl⟩
  have ht2 : t < 32 := by omega
  rw [← hf, ← ht] at hn ⊢
  have e1 : v / 2 ^ n = v / Bp f / 2 ^ t := by
    unfold Bp
    rw [Nat.div_div_eq_div_mul, ← Nat.pow_add, ← hn]
  have hB : 2 ^ t * 2 ^ (32 - t) = 4294967296 := by
    rw [← Nat.pow_add, show t + (32 - t) = 32 by omega]
  obtain ⟨V, hV⟩ : ∃ V, V = v / Bp f := ⟨_, rfl⟩
  have d0 : dg v f = V % 4294967296 := by rw [hV, dg_Bp]
  have d1 : dg v (f + 1) = V / 4294967296 % 4294967296 := by rw [hV, dg_Bp, Bp_succ, Nat.div_div_eq_div_mul]
  have d2 : dg v (f + 2) = V / 4294967296 / 4294967296 % 4294967296 := by
    rw [hV, dg_Bp, Bp_succ, Bp_succ, Nat.div_div_eq_div_mul, Nat.div_div_eq_div_mul, Nat.mul_assoc]
  rw [e1, ← hV, d0, d1, d2]
  obtain ⟨H, hH⟩ : ∃ H, H = V / 4294967296 / 4294967296 / 4294967296 := ⟨_, rfl⟩
  have s : V = V % 4294967296 + 2 ^ t * ((V / 4294967296 % 4294967296) * 2 ^ (32 - t) + (V / 4294967296 / 4294967296 % 4294967296) * 2 ^ (32 - t) * 4294967296 + H * 2 ^ (32 - t) * 18446744073709551616) := by
    have gen : ∀ p q A C H B B2 : Nat, p * (A * q + C * q * B + H * q * B2) = p * q * A + p * q * C * B + p * q * H * B2 := by
      intro p q A C H B B2
      rw [Nat.mul_add, Nat.mul_add]
      ac_rfl
    rw [gen, hB]
    omega
  conv => rhs; rw [s, Nat.add_mul_div_left _ _ (Nat.two_pow_pos t), ← Nat.add_assoc, ← Nat.add_assoc]
  rw [Nat.add_mul_mod_self_right]
theorem c_bitsFrom {d i v n : Nat} {σ : St} (hi : NI i) (h : Nt σ i v) (hn31 : n < 2 ^ 30) : Er (d + 2) 21 (0, ent 21 [.ref i, .int (nI n)], [], σ) (.inl (some (.long (lN (v / 2 ^ n % 2 ^ 64)))), σ, 0) := by
  have e32 : (32 : Int32) = nI 32 := rfl
  refine b21_0 (σ2 := σ) (r := lN (dg v (n / 32))) (by decide) hi.k ?_ ?_
  · rw [e32, pk_div (by omega) (by decide) (by decide)]
    exact c_wordAtN hi h.1 h.2.2 (by omega)
  rw [e32, pk_rem (by omega) (by decide) (by decide), pk_div (by omega) (by decide) (by decide)]
  refine b21_15 hi.k (by rw [nI_1]; exact c_wordAtN hi h.1 h.2.2 (by omega)) ?_
  refine b21_24 (σ2 := σ) (r := lN (dg v (n / 32 + 2))) hi.k ?_ ?_
  · rw [show (2 : Int32) = nI 2 from rfl, nI_add]
    exact c_wordAtN hi h.1 h.2.2 (by omega)
  have g := b21_37 (d := d + 1) (x0 := i) (x1 := nI n) (x2 := nI (n / 32)) (x3 := nI (n % 32)) (s0 := (((lN (dg v (n / 32))).toUInt64 >>> ((nI (n % 32)).toInt64.toUInt64 &&& Int64.toUInt64 63)).toInt64 ||| (lN (dg v (n / 32 + 1)) <<< (((32 : Int32) - nI (n % 32)).toInt64 &&& 63)))) (s1 := lN (dg v (n / 32 + 2))) (σ := σ)
  have hc : dg v (n / 32) / 2 ^ (n % 32) < 2 ^ (32 - n % 32) := by
    have := cut_lt (b := dg v (n / 32)) (t := 32 - n % 32) (dg_lt _ _) (by omega)
    rw [show 32 - (32 - n % 32) = n % 32 by omega] at this
    exact this
  have hval : ((((lN (dg v (n / 32))).toUInt64 >>> ((nI (n % 32)).toInt64.toUInt64 &&& Int64.toUInt64 63)).toInt64 ||| (lN (dg v (n / 32 + 1)) <<< (((32 : Int32) - nI (n % 32)).toInt64 &&& 63))) ||| ((lN (dg v (n / 32 + 2)) <<< (((32 : Int32) - nI (n % 32)).toInt64 &&& 63)) <<< ((32 : Int32).toInt64 &&& 63))) = lN (v / 2 ^ n % 2 ^ 64) := by
    rw [show (32 : Int32) - nI (n % 32) = nI (32 - n % 32) from pk_sub (a := 32) (by omega), ushr_N (n % 32) (Nat.lt_trans (dg_lt _ _) (by decide)) rfl (by omega), Int64.or_comm (lN (dg v (n / 32) / 2 ^ (n % 32))), or32 (dg_lt _ _) (by omega) hc, shl_N (32 - n % 32) rfl (by omega), shl_N (s := 32) 32 rfl (by decide)]
    rw [← bits_nat]
    have hlow : dg v (n / 32 + 1) * 2 ^ (32 - n % 32) + dg v (n / 32) / 2 ^ (n % 32) < 2 ^ (64 - n % 32) := by
      have h1 := dg_lt v (n / 32 + 1)
      have e : 2 ^ (64 - n % 32) = 4294967296 * 2 ^ (32 - n % 32) := by
        rw [show 64 - n % 32 = 32 + (32 - n % 32) by omega, Nat.pow_add]
      have : (dg v (n / 32 + 1) + 1) * 2 ^ (32 - n % 32) ≤ 4294967296 * 2 ^ (32 - n % 32) := Nat.mul_le_mul_right _ h1
      rw [Nat.add_mul, Nat.one_mul] at this
      omega
    have e64 : dg v (n / 32 + 2) * 2 ^ (32 - n % 32) * 2 ^ 32 = dg v (n / 32 + 2) * 2 ^ (64 - n % 32) := by
      rw [Nat.mul_assoc, ← Nat.pow_add, show 32 - n % 32 + 32 = 64 - n % 32 by omega]
    have e64' : dg v (n / 32 + 2) * 2 ^ (32 - n % 32) * 4294967296 = dg v (n / 32 + 2) * 2 ^ (64 - n % 32) := e64
    rw [e64]
    obtain ⟨k, hk⟩ : ∃ k, k = 64 - n % 32 := ⟨_, rfl⟩
    rw [← hk] at hlow ⊢
    have hk64 : k ≤ 64 := by omega
    obtain ⟨T, hT⟩ : ∃ T, T = dg v (n / 32 + 2) % 2 ^ (64 - k) := ⟨_, rfl⟩
    have hp64 : (2 : Nat) ^ 64 = 2 ^ (64 - k) * 2 ^ k := by rw [← Nat.pow_add]; congr 1; omega
    have hTm : dg v (n / 32 + 2) * 2 ^ k % 2 ^ 64 = T * 2 ^ k := by
      rw [hp64, Nat.mul_mod_mul_right, hT]
    have hTl : T * 2 ^ k < 2 ^ 64 := by
      rw [← hTm]
      exact Nat.mod_lt _ (by decide)
    have e2 : lN (dg v (n / 32 + 2) * 2 ^ k) = lN (T * 2 ^ k) := by
      rw [← lN_mod, hTm]
    rw [e2, Int64.or_comm, or_N hlow hTl, ← lN_mod (T * 2 ^ k + _)]
    congr 1
    rw [← hTm, Nat.mod_add_mod]
    congr 1
    omega
  rw [hval] at g
  exact g
