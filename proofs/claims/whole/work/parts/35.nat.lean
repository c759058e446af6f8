/-! Naturals: twos below, words of an array, products -/
theorem low_and {m s : Nat} (h : m < 2 ^ s) : m &&& (2 ^ s - (m + 1)) = 0 := by
  apply Nat.eq_of_testBit_eq
  intro i
  rw [Nat.testBit_and, Nat.testBit_two_pow_sub_succ h, Nat.zero_testBit]
  cases Nat.testBit m i <;> simp
theorem odd_and {a b : Nat} : (2 * a + 1) &&& (2 * b + 1) = 2 * (a &&& b) + 1 := by
  apply Nat.eq_of_testBit_eq
  intro i
  cases i with
  | zero => simp [Nat.testBit_and, Nat.testBit_zero, Nat.add_mod]
  | succ i =>
    rw [Nat.testBit_and, Nat.testBit_succ, Nat.testBit_succ, Nat.testBit_succ, show (2 * a + 1) / 2 = a by omega, show (2 * b + 1) / 2 = b by omega, show (2 * (a &&& b) + 1) / 2 = (a &&& b) by omega, Nat.testBit_and]
theorem two_and (a b t : Nat) : (2 ^ t * a) &&& (2 ^ t * b) = 2 ^ t * (a &&& b) := by
  apply Nat.eq_of_testBit_eq
  intro i
  rw [Nat.testBit_and, Nat.testBit_two_pow_mul, Nat.testBit_two_pow_mul, Nat.testBit_two_pow_mul, Nat.testBit_and]
  cases decide (t ≤ i) <;> simp
/-- the lowest one alone -/
theorem neg_and {t m : Nat} (h : 2 ^ t * (2 * m + 1) < 4294967296) : lN (2 ^ t * (2 * m + 1)) &&& -lN (2 ^ t * (2 * m + 1)) = lN (2 ^ t) := by
  have ht : t < 32 := by
    apply Nat.lt_of_not_le
    intro g
    have h1 : 2 ^ 32 ≤ 2 ^ t := Nat.pow_le_pow_right (by decide) g
    have h2 : 2 ^ t * 1 ≤ 2 ^ t * (2 * m + 1) := Nat.mul_le_mul_left _ (by omega)
    omega
  have hm : m < 2 ^ (63 - t) := by
    have h1 : 1 ≤ 2 ^ t := Nat.two_pow_pos t
    have h2 : 1 * (2 * m + 1) ≤ 2 ^ t * (2 * m + 1) := Nat.mul_le_mul_right _ h1
    have h3 : 2 ^ 32 ≤ 2 ^ (63 - t) ∨ 32 > 63 - t := by
      rcases Nat.lt_or_ge (63 - t) 32 with q | q
      · exact Or.inr q
      · exact Or.inl (Nat.pow_le_pow_right (by decide) q)
    have : 63 - t ≥ 32 := by omega
    rcases h3 with q | q <;> omega
  apply un_inj
  have hp : 0 < 2 ^ t * (2 * m + 1) := Nat.mul_pos (Nat.two_pow_pos t) (by omega)
  have h64 : 2 ^ t < 2 ^ 64 := Nat.pow_lt_pow_right (by decide) (by omega)
  rw [un_and, un_neg, un_lN' (by omega), un_lN' h64, Nat.mod_eq_of_lt (by omega)]
  have e : 2 ^ 64 - 2 ^ t * (2 * m + 1) = 2 ^ t * (2 * (2 ^ (63 - t) - (m + 1)) + 1) := by
    have e1 : (2 : Nat) ^ 64 = 2 ^ t * (2 * 2 ^ (63 - t)) := by
      rw [show (2 : Nat) * 2 ^ (63 - t) = 2 ^ (64 - t) by rw [show 64 - t = (63 - t) + 1 by omega, Nat.pow_succ, Nat.mul_comm], ← Nat.pow_add]
      congr 1
      omega
    rw [e1, ← Nat.mul_sub]
    congr 1
    omega
  rw [e, two_and, odd_and, low_and hm, Nat.mul_zero, Nat.zero_add, Nat.mul_one]
theorem bln_pow (t : Nat) : bln (2 ^ t) = t + 1 := bln_eq (Nat.pow_lt_pow_right (by decide) (Nat.lt_succ_self t)) (Nat.le_refl _) (by omega)
theorem odd_mod {m k : Nat} (hk : 0 < k) : ∃ m2, (2 * m + 1) % 2 ^ k = 2 * m2 + 1 := by
  have : (2 * m + 1) % 2 ^ k % 2 = (2 * m + 1) % 2 := Nat.mod_mod_of_dvd _ ⟨2 ^ (k - 1), by rw [← Nat.pow_succ', show (k - 1).succ = k by omega]⟩
  exact ⟨(2 * m + 1) % 2 ^ k / 2, by omega⟩
theorem c_zerosBelow {d i t m : Nat} {σ : St} (hi : NI i) (h : Nt σ i (2 ^ t * (2 * m + 1))) : Er (d + 2) 25 (0, ent 25 [.ref i], [], σ) (.inl (some (.int (nI t))), σ, 0) := by
  have hn := n20 h.2.2
  have hp : 0 < 2 ^ t * (2 * m + 1) := Nat.mul_pos (Nat.two_pow_pos t) (by omega)
  obtain ⟨v, hv⟩ : ∃ v, v = 2 ^ t * (2 * m + 1) := ⟨_, rfl⟩
  rw [← hv] at h hn hp
  have hq : t / 32 < nd v := by
    apply Nat.lt_of_not_le
    intro g
    rw [nd_Bp] at g
    have h1 : Bp (t / 32) ≤ 2 ^ t := Nat.pow_le_pow_right (by decide) (by omega)
    have h2 : 2 ^ t * 1 ≤ 2 ^ t * (2 * m + 1) := Nat.mul_le_mul_left _ (by omega)
    omega
  have low : ∀ j, j < t / 32 → dg v j = 0 := by
    intro j hj
    unfold dg
    have e : v = 2 ^ (32 * j) * (2 ^ (t - 32 * j - 32) * (2 * m + 1) * 4294967296) := by
      rw [hv]
      have : 2 ^ t = 2 ^ (32 * j) * (2 ^ (t - 32 * j - 32) * 2 ^ 32) := by
        rw [← Nat.pow_add, ← Nat.pow_add]
        congr 1
        omega
      rw [this, show (4294967296 : Nat) = 2 ^ 32 from rfl]
      generalize (2 : Nat) ^ 32 = B
      ac_rfl
    rw [e, Nat.mul_div_cancel_left _ (Nat.two_pow_pos _), Nat.mul_mod_left]
  obtain ⟨m2, hm2⟩ := odd_mod (m := m) (k := 32 - t % 32) (by omega)
  have top : dg v (t / 32) = 2 ^ (t % 32) * (2 * m2 + 1) := by
    unfold dg
    have e : v = 2 ^ (32 * (t / 32)) * (2 ^ (t % 32) * (2 * m + 1)) := by
      rw [hv, ← Nat.mul_assoc, ← Nat.pow_add, show 32 * (t / 32) + t % 32 = t by omega]
    rw [e, Nat.mul_div_cancel_left _ (Nat.two_pow_pos _), show (4294967296 : Nat) = 2 ^ (t % 32) * 2 ^ (32 - t % 32) by rw [← Nat.pow_add, show t % 32 + (32 - t % 32) = 32 by omega], Nat.mul_mod_mul_left, hm2]
  have loop : ∀ n j, j + n = t / 32 → Er (d + 2) 25 (2, [some (.ref i), some (.int (nI j))], [], σ) (.inl (some (.int (nI t))), σ, 0) := by
    intro n
    induction n with
    | zero =>
      intro j hj
      rw [Nat.add_zero] at hj
      subst hj
      have hd := dg_lt v (t / 32)
      rw [top] at hd
      have hnz : 0 < 2 ^ (t % 32) * (2 * m2 + 1) := Nat.mul_pos (Nat.two_pow_pos _) (by omega)
      refine b25_2 hi.k (fun q => absurd q (by rw [h.2.1]; exact nI_ge hq (by omega))) (fun _ => ?_)
      refine b25_10 hi.k (hi.w (by omega)) (fun q => ?_) (fun _ => ?_)
      · rw [rd hi h.1 (by omega), top, lN_ne0 hd] at q
        omega
      · refine b25_21 (σ2 := σ) (r := nI (t % 32 + 1)) hi.k (hi.w (by omega)) ?_ ?_
        · rw [rd hi h.1 (by omega), top, neg_and hd]
          have := c_length (d := d) (n := 2 ^ (t % 32)) (σ := σ) (Nat.pow_lt_pow_right (by decide) (by omega))
          rw [bln_pow] at this
          exact this
        · have g := b25_42 (d := d + 1) (x0 := i) (x1 := nI (t / 32)) (s0 := nI (t / 32) * 32) (s1 := nI (t % 32 + 1)) (σ := σ)
          rw [show (32 : Int32) = nI 32 from rfl, pk_mul, nI_add, show t / 32 * 32 + (t % 32 + 1) = t + 1 by omega, nI_pred] at g
          rw [show (32 : Int32) = nI 32 from rfl, pk_mul]
          exact g
    | succ n ih =>
      intro j hj
      refine b25_2 hi.k (fun q => absurd q (by rw [h.2.1]; exact nI_ge (by omega) (by omega))) (fun _ => ?_)
      refine b25_10 hi.k (hi.w (by omega)) (fun _ => ?_) (fun q => ?_)
      · refine b25_46 ?_
        rw [nI_1]
        exact ih (j + 1) (by omega)
      · rw [rd hi h.1 (by omega), low j (by omega)] at q
        exact absurd rfl q
  exact b25_0 (loop (t / 32) 0 (by omega))
theorem Nt0 {σ : St} {i : Nat} : Nt (sN σ i 0) i 0 := sN_Nt (Nat.two_pow_pos _)
theorem rN_gal_hi {σ : St} {i a : Nat} {f : Nat → Int64} {n : Int32} (hi : NI i) (h : 40 ≤ a) : gal (rN σ i f n) a = gal σ a := by
  have := hi.2
  unfold rN
  rw [gal_sfi, gal_sar, if_neg (by omega)]
theorem isL40 : isL 40 := by unfold isL; omega
theorem x4 (x p y q : Nat) : x * p * (y * q) = x * y * (p * q) := by ac_rfl
theorem c_takeWords {d i v w s : Nat} {σ : St} (hi : NI i) (h : Nt σ i w) (hv : v < Bp 8) (hs : s + 8 ≤ 960) (hg : ∀ k, k < 8 → gal σ 40 (s + k) = lN (dg v k)) : Er (d + 2) 26 (0, ent 26 [.ref i, .ref 40, .int (nI s)], [], σ) (.inl none, sN σ i v, 0) := by
  refine b26_0 hi.k (c_wipe hi h) (b26_4 ?_)
  have fin : Er (d + 2) 26 (41, [some (.ref i), some (.ref 40), some (.int (nI s)), some (.int (nI 8))], [], rN σ i (dgs v) (nI 0)) (.inl none, sN σ i v, 0) := b26_41 hi.k (mes (e := 8) hi (by decide) hv) b26_47
  have loop : ∀ n j, j + n = 8 → Er (d + 2) 26 (6, [some (.ref i), some (.ref 40), some (.int (nI s)), some (.int (nI j))], [], rN σ i (dgs (v % Bp j)) (nI 0)) (.inl none, sN σ i v, 0) := by
    intro n
    induction n with
    | zero =>
      intro j hj
      rw [Nat.add_zero] at hj
      subst hj
      rw [Bp_mod hv]
      exact b26_6 (fun _ => fin) (fun q => absurd (Int32.le_refl _) q)
    | succ n ih =>
      intro j hj
      refine b26_6 (fun q => absurd q (nI_ge (b := 8) (by omega) (by decide))) (fun _ => ?_)
      refine b26_12 (fun q => absurd q (nI_pos (by omega))) (fun _ => ?_)
      refine b26_16 (by decide) (by decide) (fun q => ?_) (fun _ => ?_)
      · have : (Int32.ofNat (ale 40)) - nI j = nI (960 - j) := pk_sub (a := 960) (by omega)
        rw [this, nI_leI (by omega) (by omega)] at q
        omega
      · refine b26_24 hi.k ⟨isL40, by rw [nI_add]; exact vp_in_nI (by show s + j < 960; omega) (by decide)⟩ (hi.w (by omega)) ?_
        rw [nI_add, nI_32 (n := s + j) (by omega), rN_gal_hi hi (by decide), hg j (by omega), nI_1, wr hi (by omega) (dg_lt _ _)]
        have e : sd (v % Bp j) j (dg v j) = v % Bp (j + 1) := by
          unfold sd
          rw [dg_split, Nat.mod_mod, Nat.div_eq_of_lt (Nat.lt_of_lt_of_le (mod_lt_Bp v j) (Bp_le (by omega))), Nat.zero_mul, Nat.add_zero]
        rw [e]
        exact ih (j + 1) (by omega)
  have := loop 8 0 (by omega)
  rw [Bp_0, Nat.mod_one] at this
  exact this
def gvw (g : Nat → Int64) (s v : Nat) : Nat → Int64 := fun j => if s ≤ j ∧ j < s + 8 then lN (dg v (j - s)) else g j
theorem c_giveWords {d i v s : Nat} {σ : St} (hi : NI i) (h : Nt σ i v) (hs : s + 8 ≤ 960) : Er (d + 1) 16 (0, ent 16 [.ref i, .ref 40, .int (nI s)], [], σ) (.inl none, sar σ 40 (gvw (gal σ 40) s v), 0) := by
  have hi2 := hi.2
  have loop : ∀ n j, j + n = 8 → Er (d + 1) 16 (2, [some (.ref i), some (.ref 40), some (.int (nI s)), some (.int (nI j))], [], sar σ 40 (fun x => if s ≤ x ∧ x < s + j then lN (dg v (x - s)) else gal σ 40 x)) (.inl none, sar σ 40 (gvw (gal σ 40) s v), 0) := by
    intro n
    induction n with
    | zero =>
      intro j hj
      rw [Nat.add_zero] at hj
      subst hj
      exact b16_2 (fun _ => b16_37) (fun q => absurd (Int32.le_refl _) q)
    | succ n ih =>
      intro j hj
      refine b16_2 (fun q => absurd q (nI_ge (b := 8) (by omega) (by decide))) (fun _ => ?_)
      refine b16_8 (fun q => absurd q (nI_pos (by omega))) (fun _ => ?_)
      refine b16_12 (by decide) (by decide) (fun q => ?_) (fun _ => ?_)
      · have : (Int32.ofNat (ale 40)) - nI j = nI (960 - j) := pk_sub (a := 960) (by omega)
        rw [this, nI_leI (by omega) (by omega)] at q
        omega
      · refine b16_20 hi.k (hi.w (by omega)) ⟨isL40, by rw [nI_add]; exact vp_in_nI (by show s + j < 960; omega) (by decide)⟩ ?_
        rw [rd hi (v := v) (by rw [gal_sar, if_neg (by omega)]; exact h.1) (by omega), nI_add, nI_32 (n := s + j) (by omega), nI_1]
        unfold sal
        rw [gal_sar, if_pos rfl, sar_sar]
        have ef : vp_updL (fun x => if s ≤ x ∧ x < s + j then lN (dg v (x - s)) else gal σ 40 x) (s + j) (lN (dg v j)) = fun x => if s ≤ x ∧ x < s + (j + 1) then lN (dg v (x - s)) else gal σ 40 x := by
          funext x
          unfold vp_updL
          by_cases hx : x = s + j
          · subst hx
            rw [if_pos rfl, if_pos (by omega), show s + j - s = j by omega]
          · rw [if_neg hx]
            show (if s ≤ x ∧ x < s + j then lN (dg v (x - s)) else gal σ 40 x) = _
            by_cases h2 : s ≤ x ∧ x < s + j
            · rw [if_pos h2, if_pos (by omega)]
            · rw [if_neg h2, if_neg (by omega)]
        rw [ef]
        exact ih (j + 1) (by omega)
  have := loop 8 0 (by omega)
  have e0 : sar σ 40 (fun x => if s ≤ x ∧ x < s + 0 then lN (dg v (x - s)) else gal σ 40 x) = σ := by
    have : (fun x => if s ≤ x ∧ x < s + 0 then lN (dg v (x - s)) else gal σ 40 x) = gal σ 40 := by
      funext x
      rw [if_neg (by omega)]
    rw [this]
    obtain ⟨a, b, c, e, f⟩ := σ
    unfold sar gal
    simp only
    congr 4
    funext x
    by_cases hx : x = 40
    · rw [if_pos hx, hx]
    · rw [if_neg hx]
  rw [e0] at this
  exact b16_0 this
theorem c_product {d i k l a b w : Nat} {σ : St} (hi : NI i) (hk : NI k) (hl : NI l) (hki : k ≠ i) (hli : l ≠ i) (h0 : Nt σ i w) (h : Nt σ k a) (h2 : Nt σ l b) (hs : nd a + nd b ≤ 19) : Er (d + 2) 27 (0, ent 27 [.ref i, .ref k, .ref l], [], σ) (.inl none, sN σ i (a * b), 0) := by
  have hab : a * b < Bp (nd a + nd b) := by
    rw [Bp_add]
    exact Nat.mul_lt_mul_of_lt_of_le (nd_self a) (Nat.le_of_lt (nd_self b)) (Bp_pos _)
  refine b27_0 hi.k (c_wipe hi h0) (b27_4 ?_)
  have fin : ∀ o4 o5 o6 o7 o8 o9, Er (d + 2) 27 (114, [some (.ref i), some (.ref k), some (.ref l), some (.int (nI (nd a))), o4, o5, o6, o7, o8, o9], [], rN σ i (dgs (a * b)) (nI 0)) (.inl none, sN σ i (a * b), 0) := by
    intro o4 o5 o6 o7 o8 o9
    refine b27_114 (σ2 := sN σ i (a * b)) hk.k hl.k hi.k ?_ b27_132
    rw [rN_on hki, rN_on hli, h.2.1, h2.2.1, nI_add, show (20 : Int32) = nI 20 from rfl, imin (by omega) (by omega)]
    refine mes hi (by omega) ?_
    rw [show min (nd a + nd b) 20 = nd a + nd b by omega]
    exact hab
  have outer : ∀ n j, j + n = nd a → ∀ o4 o5 o6 o7 o8 o9, Er (d + 2) 27 (6, [some (.ref i), some (.ref k), some (.ref l), some (.int (nI j)), o4, o5, o6, o7, o8, o9], [], rN σ i (dgs (a % Bp j * b)) (nI 0)) (.inl none, sN σ i (a * b), 0) := by
    intro n
    induction n with
    | zero =>
      intro j hj o4 o5 o6 o7 o8 o9
      rw [Nat.add_zero] at hj
      subst hj
      rw [Bp_mod (nd_self a)]
      exact b27_6 hk.k (fun _ => fin _ _ _ _ _ _) (fun q => absurd (by rw [rN_on hki, h.2.1]; exact Int32.le_refl _) q)
    | succ n ih =>
      intro j hj o4 o5 o6 o7 o8 o9
      refine b27_6 hk.k (fun q => absurd q (by rw [rN_on hki, h.2.1]; exact nI_ge (by omega) (by omega))) (fun _ => ?_)
      refine b27_14 hl.k ?_
      rw [rN_on hli, h2.2.1, show (19 : Int32) = nI 19 from rfl, pk_sub (by omega), imin (by omega) (by omega), show min (nd b) (19 - j) = nd b by omega]
      have hx := dg_lt a j
      have inner : ∀ r t U c, t + r = nd b → c < 4294967296 → U < Bp (j + nd b) → U + c * Bp (j + t) = a % Bp j * b + dg a j * Bp j * (b % Bp t) → ∀ o8 o9, Er (d + 2) 27 (33, [some (.ref i), some (.ref k), some (.ref l), some (.int (nI j)), some (.long (lN c)), none, some (.int (nI (nd b))), some (.int (nI t)), o8, o9], [], rN σ i (dgs U) (nI 0)) (.inl none, sN σ i (a * b), 0) := by
        intro r
        induction r with
        | zero =>
          intro t U c ht hc hU e1 o8 o9
          rw [Nat.add_zero] at ht
          subst ht
          refine b27_33 (fun _ => ?_) (fun q => absurd (Int32.le_refl _) q)
          refine b27_97 hi.k (by rw [nI_add]; exact hi.w (by omega)) ?_
          rw [nI_add, wr hi (by omega) hc, nI_1]
          have e2 : sd U (j + nd b) c = a % Bp (j + 1) * b := by
            have q := sd_eq U (j + nd b) c
            rw [dg_z (n := j + nd b) hU (Nat.le_refl _), Nat.zero_mul, Nat.add_zero] at q
            rw [Bp_mod (nd_self b)] at e1
            rw [dg_split, Nat.add_mul]
            omega
          rw [e2]
          exact ih (j + 1) (by omega) _ _ _ _ _ _
        | succ r ihr =>
          intro t U c ht hc hU e1 o8 o9
          refine b27_33 (fun q => absurd q (nI_ge (by omega) (by omega))) (fun _ => ?_)
          refine b27_40 hk.k (hk.w (by omega)) hl.k (hl.w (by omega)) hi.k (by rw [nI_add]; exact hi.w (by omega)) ?_
          have hy := dg_lt b t
          have hu := dg_lt U (j + t)
          have hxy : dg a j * dg b t ≤ 4294967295 * 4294967295 := Nat.mul_le_mul (by omega) (by omega)
          rw [rd hk (v := a) (by rw [rN_of hki]; exact h.1) (by omega), rd hl (v := b) (by rw [rN_of hli]; exact h2.1) (by omega), nI_add, rd hi (v := U) (rN_f _ _ _ _) (by omega), lN_mul, lN_add, lN_add, m32, ushr32 (by omega), nI_1, wr hi (by omega) (Nat.mod_lt _ (by decide))]
          refine ihr (t + 1) _ _ (by omega) (by omega) (sd_lt hU (by omega) (Nat.mod_lt _ (by decide))) ?_ _ _
          have ds := dstep U (j + t) (dg a j * dg b t + dg U (j + t) + c)
          rw [Nat.add_mul (dg a j * dg b t + dg U (j + t)), Nat.add_mul (dg a j * dg b t)] at ds
          have sp := dg_split b t
          have e3 : dg a j * Bp j * (b % Bp (t + 1)) = dg a j * Bp j * (b % Bp t) + dg a j * dg b t * Bp (j + t) := by
            rw [sp, Nat.mul_add, Bp_add, x4]
          rw [← Nat.add_assoc j t 1]
          omega
      refine inner (nd b) 0 _ 0 (by omega) (by decide) ?_ ?_ _ _
      · rw [Bp_add]
        exact Nat.mul_lt_mul_of_lt_of_le (mod_lt_Bp a j) (Nat.le_of_lt (nd_self b)) (Bp_pos _)
      · rw [Bp_0, Nat.mod_one]
        omega
  have := outer (nd a) 0 (by omega) none none none none none none
  rw [Bp_0, Nat.mod_one, Nat.zero_mul] at this
  exact this
