/-! Division: a word, and all -/
theorem kn {U V X s b q u1 u0 : Nat} (hX : 0 < X) (h1 : b * X ≤ V) (h2 : V < (b + 1) * X) (h3 : s * X ≤ U) (h4 : U < (s + 1) * X) (h5 : U < V * 4294967296) (hs : s = u1 * 4294967296 + u0) (hu0 : u0 < 4294967296) (hb : 2147483648 ≤ b) (hq : q = U / V) :
    u1 ≤ b ∧ q ≤ gs u1 u0 b ∧ gs u1 u0 b ≤ q + 2 ∧ gs u1 u0 b < 4294967296 := by
  have hV : 0 < V := by
    have := Nat.mul_pos (show 0 < b by omega) hX
    omega
  have hu1 : u1 ≤ b := by
    have k1 : u1 * (4294967296 * X) < (b + 1) * (4294967296 * X) := by
      have a1 : u1 * (4294967296 * X) ≤ s * X := by
        rw [← Nat.mul_assoc]
        exact Nat.mul_le_mul_right _ (by omega)
      have a2 : V * 4294967296 ≤ (b + 1) * X * 4294967296 := Nat.mul_le_mul_right _ (Nat.le_of_lt h2)
      have a3 : (b + 1) * X * 4294967296 = (b + 1) * (4294967296 * X) := by
        generalize (4294967296 : Nat) = B
        ac_rfl
      omega
    have := Nat.lt_of_mul_lt_mul_right k1
    omega
  have hqB : q < 4294967296 := by
    rw [hq, Nat.div_lt_iff_lt_mul hV, Nat.mul_comm]
    exact h5
  have hq1 : q * V ≤ U := by rw [hq]; exact Nat.div_mul_le_self U V
  have hq2 : U < (q + 1) * V := by
    rw [hq, Nat.mul_comm]
    have := Nat.lt_mul_div_succ U hV
    exact this
  have low : q * b ≤ s := by
    have k1 : q * b * X < (s + 1) * X := by
      rw [Nat.mul_assoc]
      have := Nat.mul_le_mul_left q h1
      omega
    have := Nat.lt_of_mul_lt_mul_right k1
    omega
  have hg1 : gs u1 u0 b * b ≤ s := by
    unfold gs
    by_cases g : u1 < b
    · rw [if_pos g, ← hs]
      exact Nat.div_mul_le_self _ _
    · rw [if_neg g]
      have : u1 = b := by omega
      subst this
      rw [Nat.mul_comm]
      omega
  have hg2 : gs u1 u0 b < 4294967296 := by
    unfold gs
    by_cases g : u1 < b
    · rw [if_pos g, ← hs, Nat.div_lt_iff_lt_mul (by omega), Nat.mul_comm]
      have := Nat.mul_le_mul_right 4294967296 g
      rw [Nat.succ_mul] at this
      omega
    · rw [if_neg g]
      decide
  refine ⟨hu1, ?_, ?_, hg2⟩
  · unfold gs
    by_cases g : u1 < b
    · rw [if_pos g, ← hs, Nat.le_div_iff_mul_le (by omega)]
      exact low
    · rw [if_neg g]
      omega
  · apply Nat.le_of_not_lt
    intro g
    have k1 : gs u1 u0 b * b * X < (q + 1) * (b + 1) * X := by
      have a1 : gs u1 u0 b * b * X ≤ s * X := Nat.mul_le_mul_right _ hg1
      have a2 : (q + 1) * V ≤ (q + 1) * ((b + 1) * X) := Nat.mul_le_mul_left _ (Nat.le_of_lt h2)
      rw [← Nat.mul_assoc] at a2
      omega
    have k2 := Nat.lt_of_mul_lt_mul_right k1
    have k3 : (q + 3) * b ≤ gs u1 u0 b * b := Nat.mul_le_mul_right _ g
    rw [Nat.add_mul q 1, Nat.mul_add q b, Nat.mul_one, Nat.one_mul] at k2
    rw [Nat.add_mul] at k3
    omega
theorem c_divideAt {d D U V p : Nat} {σ : St} {n : Int32} (hD : DI D) (hV : Nt σ (fr D 2) V) (hn : 0 < nd V) (hd : 2147483648 ≤ dg V (nd V - 1)) (hp : p + nd V ≤ 20) (hU : U < Bp 20) (hlt : U < V * Bp (p + 1)) :
    Er (d + 2) 7 (0, ent 7 [.ref D, .int (nI p)], [], rN σ (fr D 1) (dgs U) n) (.inl (some (.long (lN (U / (V * Bp p))))), rN σ (fr D 1) (dgs (U % (V * Bp p))) n, 0) := by
  have hVn := nd_self V
  have hV0 : 0 < V := nd_pos.mp hn
  have hV' : V * Bp p < Bp (p + nd V) := by
    rw [Bp_add, Nat.mul_comm]
    exact Nat.mul_lt_mul_of_pos_left hVn (Bp_pos p)
  have hVp : 0 < V * Bp p := Nat.mul_pos hV0 (Bp_pos p)
  have hU1 : U < Bp (p + nd V + 1) := by
    refine Nat.lt_of_lt_of_le hlt ?_
    rw [show p + nd V + 1 = nd V + (p + 1) by omega, Bp_add (nd V) (p + 1)]
    exact Nat.mul_le_mul_right _ (Nat.le_of_lt hVn)
  have hu : U / Bp (p + nd V) = dg U (p + nd V) := by
    have := div_dg U (p + nd V)
    rw [div_Bp_lt hU1] at this
    omega
  obtain ⟨m, hm⟩ : ∃ m, nd V = m + 1 := ⟨nd V - 1, by omega⟩
  have hs : U / Bp (p + m) = dg U (p + nd V) * 4294967296 + dg U (p + m) := by
    have := div_dg U (p + m)
    rw [show p + m + 1 = p + nd V by omega, hu] at this
    exact this
  have hXp := Bp_pos (p + m)
  have key := kn (U := U) (V := V * Bp p) (X := Bp (p + m)) (s := U / Bp (p + m)) (b := dg V m) (q := U / (V * Bp p)) (u1 := dg U (p + nd V)) (u0 := dg U (p + m)) hXp
    (by
      rw [Bp_add, Nat.mul_comm (Bp p), ← Nat.mul_assoc]
      refine Nat.mul_le_mul_right _ ?_
      have := dg_split V m
      rw [← hm, Bp_mod hVn] at this
      omega)
    (by
      rw [Bp_add, Nat.mul_comm (Bp p), ← Nat.mul_assoc]
      refine Nat.mul_lt_mul_of_pos_right ?_ (Bp_pos p)
      have h1 := dg_split V m
      have h2 := mod_lt_Bp V m
      rw [← hm, Bp_mod hVn] at h1
      rw [Nat.add_mul]
      omega)
    (Nat.div_mul_le_self _ _)
    (by rw [Nat.mul_comm]; exact Nat.lt_mul_div_succ U hXp)
    (by rw [Nat.mul_assoc, ← Bp_succ]; exact hlt)
    hs (dg_lt _ _) (by rw [hm, Nat.add_sub_cancel] at hd; exact hd) rfl
  obtain ⟨hu1, hql, hqu, hg⟩ := key
  obtain ⟨q, hq⟩ : ∃ q, q = U / (V * Bp p) := ⟨_, rfl⟩
  rw [← hq] at hql hqu ⊢
  have hqm : q * (V * Bp p) + U % (V * Bp p) = U := by
    rw [hq, Nat.mul_comm]
    exact Nat.div_add_mod _ _
  have hrm := Nat.mod_lt U hVp
  have hdlt := dg_lt U (p + nd V)
  -- the end, once the word is right
  have fin : ∀ Us (z : Int) (x7 : Int32), Us < Bp 20 → Us / Bp (p + nd V) = dg U (p + nd V) → (Us : Int) + z * Bp (p + nd V) + ((q * (V * Bp p) : Nat) : Int) = U + ((dg U (p + nd V) * Bp (p + nd V) : Nat) : Int) →
      Er (d + 2) 7 (101, [some (.ref D), some (.int (nI p)), some (.int (nI (p + nd V))), some (.long (lN q)), none, some (.long (lZ z)), none, some (.int x7)], [], rN σ (fr D 1) (dgs Us) n) (.inl (some (.long (lN q))), rN σ (fr D 1) (dgs (U % (V * Bp p))) n, 0) := by
    intro Us z x7 hUs hdiv hE
    have hsp := mod_split Us (p + nd V)
    rw [hdiv] at hsp
    have hlow := mod_lt_Bp Us (p + nd V)
    have hz : z = 0 := by
      rcases Int.lt_trichotomy z 0 with g | g | g
      · have : z * (Bp (p + nd V) : Int) ≤ (-1) * (Bp (p + nd V) : Int) := Int.mul_le_mul_of_nonneg_right (by omega) (Int.natCast_nonneg _)
        omega
      · exact g
      · have : 1 * (Bp (p + nd V) : Int) ≤ z * (Bp (p + nd V) : Int) := Int.mul_le_mul_of_nonneg_right (by omega) (Int.natCast_nonneg _)
        omega
    subst hz
    have hlow2 : Us % Bp (p + nd V) = U % (V * Bp p) := by omega
    refine b7_101 (fun g => ?_) (fun g => ?_)
    · rw [show (20 : Int32) = nI 20 from rfl, nI_leI (by decide) (by omega)] at g
      have h20 : p + nd V = 20 := by omega
      have hz0 : dg U (p + nd V) = 0 := by rw [h20]; exact dg_z (n := 20) hU (Nat.le_refl _)
      rw [hz0, Nat.zero_mul, Nat.add_zero] at hsp
      rw [← hlow2, ← hsp]
      exact b7_122
    · rw [show (20 : Int32) = nI 20 from rfl, nI_leI (by decide) (by omega)] at g
      refine b7_107 hD.k hD.r.k (hD.r.w (by omega)) ?_
      have hm0 : lZ 0 &&& (4294967295 : Int64) = lN 0 := by decide
      rw [hm0, wr hD.r (by omega) (by decide)]
      have e : sd Us (p + nd V) 0 = U % (V * Bp p) := by
        unfold sd
        rw [Nat.zero_mul, Nat.add_zero, Bp_succ, ← Nat.div_div_eq_div_mul, hdiv, Nat.div_eq_of_lt hdlt, Nat.zero_mul, Nat.add_zero]
        exact hlow2
      rw [e]
      exact b7_122
  have stage : ∀ r s Us w (z : Int), s + r = 2 → Us < Bp 20 → Us / Bp (p + nd V) = dg U (p + nd V) → q ≤ w → w + s ≤ q + 2 → w < 4294967296 → -2 ^ 33 ≤ z → z < 2 ^ 33 + s * 4 → (Us : Int) + z * Bp (p + nd V) + ((w * (V * Bp p) : Nat) : Int) = U + ((dg U (p + nd V) * Bp (p + nd V) : Nat) : Int) →
      Er (d + 2) 7 (68, [some (.ref D), some (.int (nI p)), some (.int (nI (p + nd V))), some (.long (lN w)), none, some (.long (lZ z)), none, some (.int (nI s))], [], rN σ (fr D 1) (dgs Us) n) (.inl (some (.long (lN q))), rN σ (fr D 1) (dgs (U % (V * Bp p))) n, 0) := by
    intro r
    induction r with
    | zero =>
      intro s Us w z hs2 hUs hdiv hq1 hq2 hwB hz1 hz2 hE
      have hwq : w = q := by omega
      subst hwq
      refine b7_68 (fun _ => fin Us z _ hUs hdiv hE) (fun g => ?_)
      rw [show (2 : Int32) = nI 2 from rfl, nI_leI (by decide) (by omega)] at g
      omega
    | succ r ih =>
      intro s Us w z hs2 hUs hdiv hq1 hq2 hwB hz1 hz2 hE
      have hsp := mod_split Us (p + nd V)
      rw [hdiv] at hsp
      have hlow := mod_lt_Bp Us (p + nd V)
      refine b7_68 (fun g => ?_) (fun _ => ?_)
      · rw [show (2 : Int32) = nI 2 from rfl, nI_leI (by decide) (by omega)] at g
        omega
      · refine b7_74 (fun g => ?_) (fun g => ?_)
        · rw [l_lt, lZ_t (by omega) (by omega)] at g
          have hz0 : 0 ≤ z := by
            have : (0 : Int64).toInt = 0 := rfl
            omega
          have hzP : 0 ≤ z * (Bp (p + nd V) : Int) := Int.mul_nonneg hz0 (Int.natCast_nonneg _)
          have hwU : w * (V * Bp p) ≤ U := by omega
          have hwq : w = q := by
            have : w ≤ q := by
              rw [hq, Nat.le_div_iff_mul_le hVp]
              exact hwU
            omega
          subst hwq
          exact fin Us z _ hUs hdiv hE
        · rw [l_lt, lZ_t (by omega) (by omega)] at g
          have hz0 : z ≤ -1 := by
            have : (0 : Int64).toInt = 0 := rfl
            omega
          have hzP : z * (Bp (p + nd V) : Int) ≤ (-1) * (Bp (p + nd V) : Int) := Int.mul_le_mul_of_nonneg_right hz0 (Int.natCast_nonneg _)
          have hwq : q < w := by
            apply Nat.lt_of_not_le
            intro g2
            have := Nat.mul_le_mul_right (V * Bp p) g2
            omega
          obtain ⟨U2, c, hE2, e1, hc, hU2, hdv⟩ := c_putBack (d := d) (U := Us) (p := p) (n := n) hD hV hp hUs
          refine b7_81 hD.k hE2 (b7_88 ?_)
          have e2 : lN w - 1 = lN (w - 1) := lN_sub (b := 1) (by omega)
          rw [e2, ← lZ_N c, lZ_add, nI_1]
          refine ih (s + 1) U2 (w - 1) (z + c) (by omega) hU2 (hdv.trans hdiv) (by omega) (by omega) (by omega) (by omega) (by omega) ?_
          have e3 : (w - 1) * (V * Bp p) + V * Bp p = w * (V * Bp p) := by
            conv => rhs; rw [show w = (w - 1) + 1 by omega, Nat.add_mul, Nat.one_mul]
          have e4 : (z + (c : Int)) * (Bp (p + nd V) : Int) = z * (Bp (p + nd V) : Int) + ((c * Bp (p + nd V) : Nat) : Int) := by
            rw [Int.add_mul, Int.natCast_mul]
          omega
  have ax : nI p + gfi (rN σ (fr D 1) (dgs U) n) (fr D 2) 1 = nI (p + nd V) := by
    rw [rN_on hD.rv.symm, hV.2.1, nI_add]
  refine b7_0 (r := lN (dg U (p + nd V))) hD.k hD.v.k hD.r.k (by rw [ax]; exact c_wordAtN hD.r (rN_f _ _ _ _) hU (by omega)) ?_
  rw [ax]
  have e1 : nI (p + nd V) - 1 = nI (p + m) := by
    rw [hm, ← Nat.add_assoc, nI_pred]
  refine b7_18 (r := lN (dg U (p + m))) hD.k hD.r.k (by rw [e1]; exact c_wordAtN hD.r (rN_f _ _ _ _) hU (by omega)) ?_
  have e2 : gfi (rN σ (fr D 1) (dgs U) n) (fr D 2) 1 - 1 = nI m := by
    rw [rN_on hD.rv.symm, hV.2.1, hm, nI_pred]
  refine b7_28 (r := lN (dg V m)) hD.k hD.v.k (by rw [e2]; exact c_wordAtN hD.v (hD.hv hV).1 hV.2.2 (by omega)) ?_
  have hdm : 2147483648 ≤ dg V m := by rw [hm, Nat.add_sub_cancel] at hd; exact hd
  refine b7_44 (c_guess (by omega) (dg_lt _ _) hu1 (dg_lt _ _)) ?_
  refine b7_47 (r := lN (dg U (p + nd V))) hD.k hD.r.k (c_wordAtN hD.r (rN_f _ _ _ _) hU (by omega)) ?_
  obtain ⟨U2, c, hE2, e3, hc, hU2, hdv⟩ := c_takeOff (d := d) (U := U) (p := p) (n := n) (w := gs (dg U (p + nd V)) (dg U (p + m)) (dg V m)) hD hV hg hp hU
  refine b7_56 hD.k hE2 (b7_62 ?_)
  rw [← lZ_N (dg U (p + nd V)), lZ_add]
  refine stage 2 0 U2 _ _ (by omega) hU2 (by rw [hdv, hu]) hql (by omega) hg (by omega) (by omega) ?_
  rw [Nat.mul_assoc] at e3
  have e4 : ((dg U (p + nd V) : Int) + -(c : Int)) * (Bp (p + nd V) : Int) = ((dg U (p + nd V) * Bp (p + nd V) : Nat) : Int) - ((c * Bp (p + nd V) : Nat) : Int) := by
    rw [Int.add_mul, Int.neg_mul, Int.natCast_mul, Int.natCast_mul, Int.sub_eq_add_neg]
  omega
