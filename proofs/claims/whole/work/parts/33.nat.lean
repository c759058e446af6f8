/-! Naturals: what changes them -/
theorem wr {σ : St} {i U j x : Nat} {n : Int32} (hi : NI i) (hj : j < 2 ^ 31) (hx : x < 4294967296) : sal (rN σ i (dgs U) n) (fr i 0) (nI j).toNatClampNeg (lN x) = rN σ i (dgs (sd U j x)) n := by
  rw [hi.f, nI_32 hj, rN_sal, sd_dgs _ _ hx]
theorem carry_eq (s P : Nat) : s % 4294967296 * P + s / 4294967296 * (P * 4294967296) = s * P := by
  have h := Nat.mod_add_div s 4294967296
  have h2 : s * P = (s % 4294967296 + 4294967296 * (s / 4294967296)) * P := by rw [h]
  rw [h2, Nat.add_mul]
  congr 1
  ac_rfl
theorem dstep (U j s : Nat) : sd U j (s % 4294967296) + dg U j * Bp j + s / 4294967296 * Bp (j + 1) = U + s * Bp j := by
  have h1 := sd_eq U j (s % 4294967296)
  have h2 := carry_eq s (Bp j)
  rw [← Bp_succ] at h2
  omega
theorem add_m1 (x : Int32) : x + (-1) = x - 1 := by rw [Int32.sub_eq_add_neg]
theorem nlt_div {a b k : Nat} (h : a / k < b / k) : a < b := by
  apply Nat.lt_of_not_le
  intro g
  have := Nat.div_le_div_right (c := k) g
  omega
theorem div_dg (v j : Nat) : v / Bp j = v / Bp (j + 1) * 4294967296 + dg v j := by
  rw [Bp_succ, ← Nat.div_div_eq_div_mul, dg_Bp]
  have := Nat.mod_add_div (v / Bp j) 4294967296
  omega
theorem nd_lt_lt {a b : Nat} (h : nd a < nd b) : a < b := by
  apply Nat.lt_of_not_le
  intro g
  have := nd_self a
  have : b < Bp (nd a) := by omega
  have := nd_Bp.mpr this
  omega
theorem c_isOne {d i v : Nat} {σ : St} (hi : NI i) (h : Nt σ i v) : Er (d + 1) 18 (0, ent 18 [.ref i], [], σ) (.inl (some (.int (if v = 1 then 1 else 0))), σ, 0) := by
  have hn := n20 h.2.2
  have e1 : (1 : Int32) = nI 1 := rfl
  refine b18_0 hi.k (fun g => ?_) (fun g => ?_)
  · rw [h.2.1, e1, nI_eq (by omega) (by decide)] at g
    rw [if_neg]
    · exact b18_23 (b18_24 rfl)
    · rintro rfl
      exact g rfl
  · rw [h.2.1, e1, nI_eq (by omega) (by decide)] at g
    have hv : v < 4294967296 := by
      have := nd_self v
      rw [g] at this
      exact this
    have hd : gal σ (fr i 0) (0 : Int32).toNatClampNeg = lN v := by
      rw [hi.f, h.1]
      show lN (dg v 0) = _
      rw [dg_zero, Nat.mod_eq_of_lt hv]
    refine b18_8 hi.k (hi.w (j := 0) (by decide)) (fun g => ?_) (fun g => ?_)
    · rw [hd] at g
      rw [if_neg]
      · exact b18_23 (b18_24 rfl)
      · rintro rfl
        exact g rfl
    · rw [hd] at g
      have : v = 1 := (lN_inj (by omega) (by decide)).mp g
      rw [if_pos this]
      exact b18_19 (b18_24 rfl)
theorem c_takeJ {d i v n : Nat} {σ : St} (hi : NI i) (h : Nt σ i v) (hn : n < 2 ^ 64) : Er (d + 2) 11 (0, ent 11 [.ref i, .long (lN n)], [], σ) (.inl none, sN σ i n, 0) := by
  refine b11_0 hi.k (c_wipe hi h) ?_
  have hx : n % 4294967296 < 4294967296 := Nat.mod_lt _ (by decide)
  have hy : n / 4294967296 < 4294967296 := by omega
  refine b11_4 (σ2 := sN σ i n) hi.k (hi.w (j := 0) (by decide)) (hi.w (j := 1) (by decide)) ?_ b11_30
  rw [m32, ushr32 hn]
  unfold sN
  rw [show (0 : Int32) = nI 0 from rfl, show (1 : Int32) = nI 1 from rfl, wr hi (by decide) hx, wr hi (by decide) hy]
  have e : sd (sd 0 0 (n % 4294967296)) 1 (n / 4294967296) = n := by
    unfold sd
    rw [Bp_0, Bp_1, show Bp (1 + 1) = 18446744073709551616 from rfl]
    omega
  rw [e]
  have := c_measure (d := d) (v := n) (e := 2) (σ := rN σ i (dgs n) (nI (nd 0))) hi (rN_f _ _ _ _) (by decide) hn
  unfold sN at this
  rw [rN_rN] at this
  exact this
theorem c_takeN {d i k v w : Nat} {σ : St} (hi : NI i) (hk : NI k) (h : Nt σ i w) (h2 : Nt σ k v) : Er (d + 1) 19 (0, ent 19 [.ref i, .ref k], [], σ) (.inl none, sN σ i v, 0) := by
  have hi1 := hi.1
  have hi2 := hi.2
  have hk1 := hk.1
  have hk2 := hk.2
  have g := b19_0 (d := d) (x0 := i) (x1 := k) (σ := σ) hk.k hi.k (by rw [hi.f, hk.f]; exact ⟨by omega, by omega, rfl, rfl, rfl, Nat.zero_le _⟩) hi.s
  have e : va_cpy (gal σ (fr k 0)) (gal σ (fr i 0)) 0 0 20 = dgs v := by
    rw [hi.f, hk.f, h.1, h2.1]
    funext j
    by_cases hj : j < 20
    · rw [pk_cpy_in (by omega) (by omega)]
      congr 1
      omega
    · rw [pk_cpy_out (by omega), dgs_at, dgs_at, dg_z (n := 20) h.2.2 (by omega), dg_z (n := 20) h2.2.2 (by omega)]
  rw [e, hi.f, gfi_sar, h2.2.1] at g
  exact g
theorem c_lowest {d i v : Nat} {σ : St} (hi : NI i) (h : Nt σ i v) : Er (d + 1) 24 (0, ent 24 [.ref i], [], σ) (.inl (some (.long (lN (v % 2 ^ 64)))), σ, 0) := by
  have g := b24_0 (d := d) (x0 := i) (σ := σ) hi.k (hi.w (j := 1) (by decide)) (hi.w (j := 0) (by decide))
  rw [show (0 : Int32) = nI 0 from rfl, show (1 : Int32) = nI 1 from rfl, rd hi h.1 (by decide), rd hi h.1 (by decide), shl32] at g
  have h1 := dg_lt v 1
  have h0 := dg_lt v 0
  have := or_N (a := dg v 1) (b := dg v 0) (k := 32) h0 (by omega)
  rw [this] at g
  have e : dg v 1 * 2 ^ 32 + dg v 0 = v % 2 ^ 64 := by
    rw [dg_zero, dg_Bp, Bp_1]
    omega
  rw [e] at g
  exact g
theorem c_cmp {d i k a b : Nat} {σ : St} (hi : NI i) (hk : NI k) (h : Nt σ i a) (h2 : Nt σ k b) : Er (d + 2) 20 (0, ent 20 [.ref i, .ref k], [], σ) (.inl (some (.int (cmpI a b))), σ, 0) := by
  have hn := n20 h.2.2
  have hn2 := n20 h2.2.2
  refine b20_0 hi.k hk.k (fun g => ?_) (fun g => ?_)
  · rw [h.2.1, h2.2.1, nI_eq (by omega) (by omega)] at g
    have loop : ∀ m, m ≤ nd a → a / Bp m = b / Bp m → Er (d + 2) 20 (32, [some (.ref i), some (.ref k), some (.int (nI m - 1))], [], σ) (.inl (some (.int (cmpI a b))), σ, 0) := by
      intro m
      induction m with
      | zero =>
        intro _ e
        rw [Bp_0, Nat.div_one, Nat.div_one] at e
        refine b20_32 (fun _ => ?_) (fun q => absurd (by decide) q)
        have : cmpI a b = 0 := by
          unfold cmpI
          rw [if_pos (by omega)]
        rw [this]
        exact b20_74
      | succ m ih =>
        intro hm e
        rw [nI_pred]
        refine b20_32 (fun q => absurd q (nI_pos (by omega))) (fun _ => ?_)
        refine b20_36 hi.k (hi.w (by omega)) hk.k (hk.w (by omega)) (fun q => ?_) (fun q => ?_)
        · rw [rd hi h.1 (by omega), rd hk h2.1 (by omega)] at q
          have q2 : dg a m = dg b m := (lN_inj (Nat.lt_trans (dg_lt _ _) (by decide)) (Nat.lt_trans (dg_lt _ _) (by decide))).mp q
          refine b20_68 ?_
          rw [add_m1]
          refine ih (by omega) ?_
          rw [div_dg a, div_dg b, e, q2]
        · rw [rd hi h.1 (by omega), rd hk h2.1 (by omega)] at q
          have q2 : dg a m ≠ dg b m := fun k => q (by rw [k])
          refine b20_52 (r := cmpI a b) hi.k (hi.w (by omega)) hk.k (hk.w (by omega)) ?_ b20_67
          rw [rd hi h.1 (by omega), rd hk h2.1 (by omega)]
          have c := c_compare (d := d) (x := lN (dg a m)) (y := lN (dg b m)) (σ := σ)
          rw [toInt_N (Nat.lt_trans (dg_lt _ _) (by decide)), toInt_N (Nat.lt_trans (dg_lt _ _) (by decide))] at c
          have e2 : cmpI (dg a m) (dg b m) = cmpI a b := by
            have d1 := div_dg a m
            have d2 := div_dg b m
            unfold cmpI
            rcases Nat.lt_or_gt_of_ne q2 with l | l
            · have : a < b := nlt_div (k := Bp m) (by omega)
              rw [if_neg (by omega), if_pos (by omega), if_neg (by omega), if_pos (by omega)]
            · have : b < a := nlt_div (k := Bp m) (by omega)
              rw [if_neg (by omega), if_neg (by omega), if_neg (by omega), if_neg (by omega)]
          rw [e2] at c
          exact c
    refine b20_25 hi.k ?_
    rw [h.2.1]
    refine loop (nd a) (Nat.le_refl _) ?_
    rw [div_Bp_lt (nd_self a), g, div_Bp_lt (nd_self b)]
  · rw [h.2.1, h2.2.1, nI_eq (by omega) (by omega)] at g
    refine b20_11 (r := cmpI a b) hi.k hk.k ?_ b20_24
    rw [h.2.1, h2.2.1, nI_l (by omega), nI_l (by omega)]
    have c := c_compare (d := d) (x := lN (nd a)) (y := lN (nd b)) (σ := σ)
    rw [toInt_N (by omega), toInt_N (by omega)] at c
    have e2 : cmpI (nd a) (nd b) = cmpI a b := by
      unfold cmpI
      rcases Nat.lt_or_gt_of_ne g with l | l
      · have := nd_lt_lt l
        rw [if_neg (by omega), if_pos (by omega), if_neg (by omega), if_pos (by omega)]
      · have := nd_lt_lt l
        rw [if_neg (by omega), if_neg (by omega), if_neg (by omega), if_neg (by omega)]
    rw [e2] at c
    exact c
/-! sums -/
theorem mes {d i v e : Nat} {σ : St} {n : Int32} (hi : NI i) (he : e ≤ 20) (hv : v < Bp e) : Er (d + 1) 13 (0, ent 13 [.ref i, .int (nI e)], [], rN σ i (dgs v) n) (.inl none, sN σ i v, 0) := by
  have := c_measure (d := d) (v := v) (e := e) (σ := rN σ i (dgs v) n) hi (rN_f _ _ _ _) he hv
  unfold sN at this
  rw [rN_rN] at this
  exact this
theorem c_add {d i k a b : Nat} {σ : St} (hi : NI i) (hk : NI k) (hne : k ≠ i) (h : Nt σ i a) (h2 : Nt σ k b) (hs : a + b < 2 ^ 640) : Er (d + 2) 29 (0, ent 29 [.ref i, .ref k], [], σ) (.inl none, sN σ i (a + b), 0) := by
  have hn := n20 h.2.2
  have hn2 := n20 h2.2.2
  obtain ⟨e, he⟩ : ∃ e, e = min (max (nd a) (nd b) + 1) 20 := ⟨_, rfl⟩
  have he20 : e ≤ 20 := by omega
  have hlt : a + b < Bp e := by
    have h20 : a + b < Bp 20 := hs
    rcases (by omega : e = 20 ∨ e = max (nd a) (nd b) + 1) with q | q
    · rw [q]; exact h20
    · rw [q, Bp_succ]
      have m1 := Bp_le (Nat.le_max_left (nd a) (nd b))
      have m2 := Bp_le (Nat.le_max_right (nd a) (nd b))
      have := nd_self a
      have := nd_self b
      omega
  have loop : ∀ n j U c, j + n = e → c < 3 → U + c * Bp j = a + b % Bp j → ∀ o6 o7, Er (d + 2) 29 (25, [some (.ref i), some (.ref k), some (.long (lN c)), none, some (.int (nI e)), some (.int (nI j)), o6, o7], [], rN σ i (dgs U) (nI (nd a))) (.inl none, sN σ i (a + b), 0) := by
    intro n
    induction n with
    | zero =>
      intro j U c hj hc e1 o6 o7
      rw [Nat.add_zero] at hj
      subst hj
      refine b29_25 (fun _ => ?_) (fun q => absurd (Int32.le_refl _) q)
      have hb : b % Bp j = b := Bp_mod (by omega)
      rw [hb] at e1
      have hc0 : c = 0 := by
        rcases Nat.eq_zero_or_pos c with q | q
        · exact q
        · have := Nat.le_mul_of_pos_left (Bp j) q
          omega
      subst hc0
      have hU : U = a + b := by omega
      subst hU
      exact b29_76 hi.k (mes hi he20 hlt) b29_82
    | succ n ih =>
      intro j U c hj hc e1 o6 o7
      refine b29_25 (fun q => absurd q (nI_ge (by omega) (by omega))) (fun _ => ?_)
      have hu := dg_lt U j
      have hb := dg_lt b j
      refine b29_32 hi.k (hi.w (by omega)) hk.k (hk.w (by omega)) ?_
      rw [rd hi (rN_f _ _ _ _) (by omega), rd hk (by rw [rN_of hne]; exact h2.1) (by omega), lN_add, lN_add, m32, ushr32 (by omega), nI_1, wr hi (by omega) (Nat.mod_lt _ (by decide))]
      refine ih (j + 1) _ _ (by omega) (by omega) ?_ _ _
      have ds := dstep U j (dg U j + dg b j + c)
      rw [Nat.add_mul (dg U j + dg b j), Nat.add_mul (dg U j)] at ds
      have sp := dg_split b j
      omega
  refine b29_0 hi.k hk.k ?_
  rw [h.2.1, h2.2.1, imax (by omega) (by omega), nI_1, show (20 : Int32) = nI 20 from rfl, imin (by omega) (by omega), ← he]
  have := loop e 0 a 0 (by omega) (by omega) (by rw [Bp_0, Nat.mod_one]) none none
  rw [h.rN] at this
  exact this
theorem c_sub {d i k a b : Nat} {σ : St} (hi : NI i) (hk : NI k) (hne : k ≠ i) (h : Nt σ i a) (h2 : Nt σ k b) (hs : b ≤ a) : Er (d + 2) 28 (0, ent 28 [.ref i, .ref k], [], σ) (.inl none, sN σ i (a - b), 0) := by
  have hn := n20 h.2.2
  have hn2 := n20 h2.2.2
  have ha := nd_self a
  have loop : ∀ n j U c, j + n = nd a → c ≤ 1 → U < Bp (nd a) → U + b % Bp j = a + c * Bp j → ∀ o6 o7, Er (d + 2) 28 (5, [some (.ref i), some (.ref k), some (.long (lN c)), none, some (.int (nI j)), o6, o7], [], rN σ i (dgs U) (nI (nd a))) (.inl none, sN σ i (a - b), 0) := by
    intro n
    induction n with
    | zero =>
      intro j U c hj hc hU e1 o6 o7
      rw [Nat.add_zero] at hj
      subst hj
      refine b28_5 hi.k (fun _ => ?_) (fun q => absurd (by rw [rN_n]; exact Int32.le_refl _) q)
      have hb : b % Bp (nd a) = b := Bp_mod (by omega)
      rw [hb] at e1
      have hc0 : c = 0 := by
        rcases Nat.eq_zero_or_pos c with q | q
        · exact q
        · have := Nat.le_mul_of_pos_left (Bp (nd a)) q
          omega
      subst hc0
      have hU2 : U = a - b := by omega
      subst hU2
      refine b28_58 (σ2 := sN σ i (a - b)) hi.k ?_ b28_66
      rw [rN_n]
      exact mes hi hn hU
    | succ n ih =>
      intro j U c hj hc hU e1 o6 o7
      refine b28_5 hi.k (fun q => absurd q (by rw [rN_n]; exact nI_ge (by omega) (by omega))) (fun _ => ?_)
      have hu := dg_lt U j
      have hb := dg_lt b j
      refine b28_14 hi.k (hi.w (by omega)) hk.k (hk.w (by omega)) ?_
      rw [rd hi (rN_f _ _ _ _) (by omega), rd hk (by rw [rN_of hne]; exact h2.1) (by omega), ← lZ_N, ← lZ_N, ← lZ_N, lZ_sub, lZ_sub, mZ, sgnZ (by omega) (by omega), nI_1]
      obtain ⟨z, hz⟩ : ∃ z : Int, z = (dg U j : Int) - dg b j - c := ⟨_, rfl⟩
      rw [← hz]
      obtain ⟨m, hm⟩ : ∃ m : Nat, m = (z % 4294967296).toNat := ⟨_, rfl⟩
      obtain ⟨c2, hc2⟩ : ∃ c2 : Nat, c2 = if z < 0 then 1 else 0 := ⟨_, rfl⟩
      have hm2 : m < 4294967296 := by omega
      rw [← hm, wr hi (by omega) hm2, show (if z < 0 then lN 1 else lN 0) = lN c2 by rw [hc2]; split <;> rfl]
      have key : m + dg b j + c = dg U j + c2 * 4294967296 := by
        by_cases q : z < 0
        · rw [if_pos q] at hc2; omega
        · rw [if_neg q] at hc2; omega
      refine ih (j + 1) _ _ (by omega) (by rw [hc2]; split <;> omega) (sd_lt hU (by omega) hm2) ?_ _ _
      have ds := sd_eq U j m
      have sp := dg_split b j
      have k2 : (m + dg b j + c) * Bp j = (dg U j + c2 * 4294967296) * Bp j := by rw [key]
      rw [Nat.add_mul, Nat.add_mul, Nat.add_mul] at k2
      have k3 : c2 * Bp (j + 1) = c2 * 4294967296 * Bp j := by rw [Bp_succ]; ac_rfl
      omega
  have := loop (nd a) 0 a 0 (by omega) (by omega) ha (by rw [Bp_0, Nat.mod_one]) none none
  rw [h.rN] at this
  exact b28_0 this
theorem c_addOne {d i a : Nat} {σ : St} (hi : NI i) (h : Nt σ i a) (hs : a + 1 < 2 ^ 640) : Er (d + 2) 30 (0, ent 30 [.ref i], [], σ) (.inl none, sN σ i (a + 1), 0) := by
  have hn := n20 h.2.2
  obtain ⟨e, he⟩ : ∃ e, e = min (nd a + 1) 20 := ⟨_, rfl⟩
  have he20 : e ≤ 20 := by omega
  have hlt : a + 1 < Bp e := by
    have h20 : a + 1 < Bp 20 := hs
    rcases (by omega : e = 20 ∨ e = nd a + 1) with q | q
    · rw [q]; exact h20
    · rw [q, Bp_succ]
      have := nd_self a
      omega
  have fin : ∀ j U o5 o6, U = a + 1 → Er (d + 2) 30 (65, [some (.ref i), some (.long (lN 0)), none, some (.int (nI e)), some (.int (nI j)), o5, o6], [], rN σ i (dgs U) (nI (nd a))) (.inl none, sN σ i (a + 1), 0) := by
    intro j U o5 o6 hU
    subst hU
    exact b30_65 hi.k (mes hi he20 hlt) b30_70
  have loop : ∀ n j U c, j + n = e → c ≤ 1 → U + c * Bp j = a + 1 → ∀ o5 o6, Er (d + 2) 30 (17, [some (.ref i), some (.long (lN c)), none, some (.int (nI e)), some (.int (nI j)), o5, o6], [], rN σ i (dgs U) (nI (nd a))) (.inl none, sN σ i (a + 1), 0) := by
    intro n
    induction n with
    | zero =>
      intro j U c hj hc e1 o6 o7
      rw [Nat.add_zero] at hj
      subst hj
      refine b30_17 (fun _ => ?_) (fun q => absurd (Int32.le_refl _) q)
      have hc0 : c = 0 := by
        rcases Nat.eq_zero_or_pos c with q | q
        · exact q
        · have := Nat.le_mul_of_pos_left (Bp j) q
          omega
      subst hc0
      exact fin _ _ _ _ (by omega)
    | succ n ih =>
      intro j U c hj hc e1 o6 o7
      refine b30_17 (fun q => absurd q (nI_ge (by omega) (by omega))) (fun _ => ?_)
      refine b30_23 (fun q => ?_) (fun q => ?_)
      · have hc0 : c = 0 := (lN_inj (by omega) (by decide)).mp q
        subst hc0
        exact fin _ _ _ _ (by omega)
      · have hu := dg_lt U j
        refine b30_29 hi.k (hi.w (by omega)) ?_
        rw [rd hi (rN_f _ _ _ _) (by omega), lN_add, m32, ushr32 (by omega), nI_1, wr hi (by omega) (Nat.mod_lt _ (by decide))]
        refine ih (j + 1) _ _ (by omega) (by omega) ?_ _ _
        have ds := dstep U j (dg U j + c)
        rw [Nat.add_mul (dg U j)] at ds
        omega
  refine b30_0 hi.k ?_
  rw [h.2.1, nI_1, show (20 : Int32) = nI 20 from rfl, imin (by omega) (by omega), ← he]
  have := loop e 0 a 1 (by omega) (by omega) (by rw [Bp_0]) none none
  rw [h.rN] at this
  exact this
