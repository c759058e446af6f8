/-! the class's own room: Naturals, sides of Ratios, factors -/
def SD (σ : St) (sd : Nat → Int32) : St := (fun a b => if (5 ≤ a ∧ a < 8) ∧ b = 2 then sd a else σ.1 a b, σ.2)
def KS (σ : St) (nv : Nat → Nat) (sd : Nat → Int32) (g : Nat → Nat → Int64) : St := NS (SL (SD σ sd) g) nv
def upi (sd : Nat → Int32) (i : Nat) (v : Int32) : Nat → Int32 := fun j => if j = i then v else sd j
theorem upi_s (sd : Nat → Int32) (i : Nat) (v : Int32) : upi sd i v i = v := if_pos rfl
theorem upi_n {sd : Nat → Int32} {i j : Nat} {v : Int32} (h : j ≠ i) : upi sd i v j = sd j := if_neg h
theorem SD_sfi {σ : St} {sd : Nat → Int32} {i : Nat} {v : Int32} (h : 5 ≤ i ∧ i < 8) : sfi (SD σ sd) i 2 v = SD σ (upi sd i v) := by
  unfold sfi SD upi
  simp only
  congr 1
  funext a b
  by_cases g : a = i ∧ b = 2
  · rw [if_pos g, if_pos (by omega), if_pos g.1]
  · rw [if_neg g]
    by_cases g2 : (5 ≤ a ∧ a < 8) ∧ b = 2
    · rw [if_pos g2, if_pos g2, if_neg (by omega)]
    · rw [if_neg g2, if_neg g2]
theorem KS_sd {σ : St} {nv : Nat → Nat} {sd : Nat → Int32} {g : Nat → Nat → Int64} {i : Nat} (h : 5 ≤ i ∧ i < 8) : gfi (KS σ nv sd g) i 2 = sd i := by
  unfold KS
  rw [NS_fi (by omega)]
  show (if (5 ≤ i ∧ i < 8) ∧ 2 = 2 then sd i else _) = _
  rw [if_pos ⟨h, rfl⟩]
theorem KS_ssd {σ : St} {nv : Nat → Nat} {sd : Nat → Int32} {g : Nat → Nat → Int64} {i : Nat} {v : Int32} (h : 5 ≤ i ∧ i < 8) : sfi (KS σ nv sd g) i 2 v = KS σ nv (upi sd i v) g := by
  unfold KS
  rw [NS_sfi (by omega)]
  show NS (SL (sfi (SD σ sd) i 2 v) g) nv = _
  rw [SD_sfi h]
theorem KS_fi {σ : St} {nv : Nat → Nat} {sd : Nat → Int32} {g : Nat → Nat → Int64} {i k : Nat} (h : i < 5) : gfi (KS σ nv sd g) i k = gfi σ i k := by
  unfold KS
  rw [NS_fi (by omega)]
  show (if (5 ≤ i ∧ i < 8) ∧ k = 2 then sd i else _) = _
  rw [if_neg (by omega)]
  rfl
theorem KS_sfi {σ : St} {nv : Nat → Nat} {sd : Nat → Int32} {g : Nat → Nat → Int64} {i k : Nat} {v : Int32} (h : i < 5) : sfi (KS σ nv sd g) i k v = KS (sfi σ i k v) nv sd g := by
  unfold KS
  rw [NS_sfi (by omega)]
  congr 1
  unfold SL SD sfi
  simp only
  congr 1
  funext a b
  by_cases g : a = i ∧ b = k
  · rw [if_pos g, if_neg (by omega), if_pos g]
  · rw [if_neg g]
    by_cases g2 : (5 ≤ a ∧ a < 8) ∧ b = 2
    · rw [if_pos g2, if_pos g2]
    · rw [if_neg g2, if_neg g2, if_neg g]
theorem KS_ai (σ : St) (nv : Nat → Nat) (sd : Nat → Int32) (g : Nat → Nat → Int64) : gai (KS σ nv sd g) = gai σ := rfl
theorem KS_sl (σ : St) (nv : Nat → Nat) (sd : Nat → Int32) (g : Nat → Nat → Int64) : gsl (KS σ nv sd g) = gsl σ := rfl
theorem KS_al {σ : St} {nv : Nat → Nat} {sd : Nat → Int32} {g : Nat → Nat → Int64} {a : Nat} (h : 40 ≤ a) : gal (KS σ nv sd g) a = gal σ a := NS_al h
theorem KS_sai (σ : St) (nv : Nat → Nat) (sd : Nat → Int32) (g : Nat → Nat → Int64) (i j : Nat) (v : Int32) : sai (KS σ nv sd g) i j v = KS (sai σ i j v) nv sd g := rfl
theorem KS_sar {σ : St} {nv : Nat → Nat} {sd : Nat → Int32} {g : Nat → Nat → Int64} {a : Nat} {f : Nat → Int64} (h : 40 ≤ a) : sar (KS σ nv sd g) a f = KS (sar σ a f) nv sd g := NS_sar h
theorem KS_NS (σ : St) (nv nv2 : Nat → Nat) (sd : Nat → Int32) (g : Nat → Nat → Int64) (i v : Nat) (h : NI i) : sN (KS σ nv sd g) i v = KS σ (up nv i v) sd g := NS_sN h
theorem f00 : fr 0 0 = 40 := rfl
theorem f01 : fr 0 1 = 41 := rfl
theorem f03 : fr 0 3 = 5 := rfl
theorem f04 : fr 0 4 = 6 := rfl
theorem f05 : fr 0 5 = 7 := rfl
theorem f06 : fr 0 6 = 14 := rfl
theorem f07 : fr 0 7 = 15 := rfl
theorem f08 : fr 0 8 = 3 := rfl
theorem f09 : fr 0 9 = 2 := rfl
theorem f20 : fr 2 0 = 19 := rfl
theorem f30 : fr 3 0 = 16 := rfl
theorem f31 : fr 3 1 = 17 := rfl
theorem f32 : fr 3 2 = 18 := rfl
theorem f50 : fr 5 0 = 8 := rfl
theorem f51 : fr 5 1 = 9 := rfl
theorem f60 : fr 6 0 = 10 := rfl
theorem f61 : fr 6 1 = 11 := rfl
theorem f70 : fr 7 0 = 12 := rfl
theorem f71 : fr 7 1 = 13 := rfl
theorem k0 : (0 : Nat) < 24 ∧ kls 0 = 4 := ⟨by decide, rfl⟩
theorem k0s : (0 : Nat) < 24 ∧ kls 0 = 4 ∧ ft 4 2 = 0 := ⟨by decide, rfl, rfl⟩
theorem k3 : (3 : Nat) < 24 ∧ kls 3 = 1 := ⟨by decide, rfl⟩
theorem k5 : (5 : Nat) < 24 ∧ kls 5 = 3 := ⟨by decide, rfl⟩
theorem k6 : (6 : Nat) < 24 ∧ kls 6 = 3 := ⟨by decide, rfl⟩
theorem k7 : (7 : Nat) < 24 ∧ kls 7 = 3 := ⟨by decide, rfl⟩
theorem k7s : (7 : Nat) < 24 ∧ kls 7 = 3 ∧ ft 3 2 = 0 := ⟨by decide, rfl, rfl⟩
theorem N8 : NI 8 := ⟨by decide, by decide⟩
theorem N9 : NI 9 := ⟨by decide, by decide⟩
theorem N10 : NI 10 := ⟨by decide, by decide⟩
theorem N11 : NI 11 := ⟨by decide, by decide⟩
theorem N12 : NI 12 := ⟨by decide, by decide⟩
theorem N13 : NI 13 := ⟨by decide, by decide⟩
theorem N14 : NI 14 := ⟨by decide, by decide⟩
theorem N15 : NI 15 := ⟨by decide, by decide⟩
theorem N16 : NI 16 := ⟨by decide, by decide⟩
theorem N17 : NI 17 := ⟨by decide, by decide⟩
theorem D3 : DI 3 := Or.inl rfl
def RI (r : Nat) : Prop := 5 ≤ r ∧ r < 8
theorem RI.k {r : Nat} (h : RI r) : r < 24 ∧ kls r = 3 := by
  have h1 := h.1
  have h2 := h.2
  refine ⟨by omega, ?_⟩
  unfold kls
  rw [if_neg (by omega), if_pos h1]
theorem RI.f {r : Nat} (h : RI r) (k : Nat) : fr r k = 2 * r - 2 + k := by
  have h1 := h.1
  have h2 := h.2
  unfold fr
  rw [if_neg (by omega), if_pos h1]
theorem RI.t {r : Nat} (h : RI r) : NI (fr r 0) := by
  have h1 := h.1
  have h2 := h.2
  rw [h.f]
  exact ⟨by omega, by omega⟩
theorem RI.b {r : Nat} (h : RI r) : NI (fr r 1) := by
  have h1 := h.1
  have h2 := h.2
  rw [h.f]
  exact ⟨by omega, by omega⟩
/-- every positive number is a power of two times an odd one -/
theorem twos : ∀ n : Nat, 0 < n → ∃ t m, n = 2 ^ t * (2 * m + 1) := by
  intro n
  induction n using Nat.strongRecOn with
  | _ n ih =>
    intro h
    obtain ⟨k, e | e⟩ : ∃ k, n = 2 * k ∨ n = 2 * k + 1 := ⟨n / 2, by omega⟩
    · obtain ⟨t, m, hk⟩ := ih k (by omega) (by omega)
      exact ⟨t + 1, m, by rw [e, hk, Nat.pow_succ]; ac_rfl⟩
    · exact ⟨0, k, by rw [e, Nat.pow_zero, Nat.one_mul]⟩
section
variable {d : Nat} {σ : St} {nv : Nat → Nat} {sd : Nat → Int32} {g : Nat → Nat → Int64}
theorem m_takeJ {i n : Nat} (hi : NI i) (hb : Bd nv) (hn : n < 2 ^ 64) : Er (d + 2) 11 (0, ent 11 [.ref i, .long (lN n)], [], KS σ nv sd g) (.inl none, KS σ (up nv i n) sd g, 0) := n_takeJ (σ := SL (SD σ sd) g) hi hb hn
theorem m_takeN {i k : Nat} (hi : NI i) (hk : NI k) (hb : Bd nv) : Er (d + 1) 19 (0, ent 19 [.ref i, .ref k], [], KS σ nv sd g) (.inl none, KS σ (up nv i (nv k)) sd g, 0) := n_takeN (σ := SL (SD σ sd) g) hi hk hb
theorem m_isZero {i : Nat} (hi : NI i) (hb : Bd nv) : Er (d + 1) 17 (0, ent 17 [.ref i], [], KS σ nv sd g) (.inl (some (.int (if nv i = 0 then 1 else 0))), KS σ nv sd g, 0) := n_isZero (σ := SL (SD σ sd) g) hi hb
theorem m_isOne {i : Nat} (hi : NI i) (hb : Bd nv) : Er (d + 1) 18 (0, ent 18 [.ref i], [], KS σ nv sd g) (.inl (some (.int (if nv i = 1 then 1 else 0))), KS σ nv sd g, 0) := n_isOne (σ := SL (SD σ sd) g) hi hb
theorem m_len {i : Nat} (hi : NI i) (hb : Bd nv) : Er (d + 2) 14 (0, ent 14 [.ref i], [], KS σ nv sd g) (.inl (some (.int (nI (bln (nv i))))), KS σ nv sd g, 0) := n_len (σ := SL (SD σ sd) g) hi hb
theorem m_lowest {i : Nat} (hi : NI i) (hb : Bd nv) : Er (d + 1) 24 (0, ent 24 [.ref i], [], KS σ nv sd g) (.inl (some (.long (lN (nv i % 2 ^ 64)))), KS σ nv sd g, 0) := n_lowest (σ := SL (SD σ sd) g) hi hb
theorem m_cmp {i k : Nat} (hi : NI i) (hk : NI k) (hb : Bd nv) : Er (d + 2) 20 (0, ent 20 [.ref i, .ref k], [], KS σ nv sd g) (.inl (some (.int (cmpI (nv i) (nv k)))), KS σ nv sd g, 0) := n_cmp (σ := SL (SD σ sd) g) hi hk hb
theorem m_add {i k : Nat} (hi : NI i) (hk : NI k) (hne : k ≠ i) (hb : Bd nv) (hs : nv i + nv k < 2 ^ 640) : Er (d + 2) 29 (0, ent 29 [.ref i, .ref k], [], KS σ nv sd g) (.inl none, KS σ (up nv i (nv i + nv k)) sd g, 0) := n_add (σ := SL (SD σ sd) g) hi hk hne hb hs
theorem m_sub {i k : Nat} (hi : NI i) (hk : NI k) (hne : k ≠ i) (hb : Bd nv) (hs : nv k ≤ nv i) : Er (d + 2) 28 (0, ent 28 [.ref i, .ref k], [], KS σ nv sd g) (.inl none, KS σ (up nv i (nv i - nv k)) sd g, 0) := n_sub (σ := SL (SD σ sd) g) hi hk hne hb hs
theorem m_addOne {i : Nat} (hi : NI i) (hb : Bd nv) (hs : nv i + 1 < 2 ^ 640) : Er (d + 2) 30 (0, ent 30 [.ref i], [], KS σ nv sd g) (.inl none, KS σ (up nv i (nv i + 1)) sd g, 0) := n_addOne (σ := SL (SD σ sd) g) hi hb hs
theorem m_shiftUp {i n : Nat} (hi : NI i) (hb : Bd nv) (hn : n < 2 ^ 31) (hs : nv i * 2 ^ n < 2 ^ 640) : Er (d + 2) 22 (0, ent 22 [.ref i, .int (nI n)], [], KS σ nv sd g) (.inl none, KS σ (up nv i (nv i * 2 ^ n)) sd g, 0) := n_shiftUp (σ := SL (SD σ sd) g) hi hb hn hs
theorem m_shiftDown {i n : Nat} (hi : NI i) (hb : Bd nv) (hn : n < 2 ^ 30) : Er (d + 2) 23 (0, ent 23 [.ref i, .int (nI n)], [], KS σ nv sd g) (.inl none, KS σ (up nv i (nv i / 2 ^ n)) sd g, 0) := n_shiftDown (σ := SL (SD σ sd) g) hi hb hn
theorem m_bitsFrom {i n : Nat} (hi : NI i) (hb : Bd nv) (hn : n < 2 ^ 30) : Er (d + 2) 21 (0, ent 21 [.ref i, .int (nI n)], [], KS σ nv sd g) (.inl (some (.long (lN (nv i / 2 ^ n % 2 ^ 64)))), KS σ nv sd g, 0) := n_bitsFrom (σ := SL (SD σ sd) g) hi hb hn
theorem m_product {i k l : Nat} (hi : NI i) (hk : NI k) (hl : NI l) (hki : k ≠ i) (hli : l ≠ i) (hb : Bd nv) (hs : nd (nv k) + nd (nv l) ≤ 19) : Er (d + 2) 27 (0, ent 27 [.ref i, .ref k, .ref l], [], KS σ nv sd g) (.inl none, KS σ (up nv i (nv k * nv l)) sd g, 0) := n_product (σ := SL (SD σ sd) g) hi hk hl hki hli hb hs
theorem m_zerosBelow {i t m : Nat} (hi : NI i) (hb : Bd nv) (h : nv i = 2 ^ t * (2 * m + 1)) : Er (d + 2) 25 (0, ent 25 [.ref i], [], KS σ nv sd g) (.inl (some (.int (nI t))), KS σ nv sd g, 0) := n_zerosBelow (σ := SL (SD σ sd) g) hi hb h
theorem m_takeWords {i v s : Nat} (hi : NI i) (hb : Bd nv) (hv : v < Bp 8) (hs : s + 8 ≤ 960) (hg : ∀ k, k < 8 → gal σ 40 (s + k) = lN (dg v k)) : Er (d + 2) 26 (0, ent 26 [.ref i, .ref 40, .int (nI s)], [], KS σ nv sd g) (.inl none, KS σ (up nv i v) sd g, 0) := n_takeWords (σ := SL (SD σ sd) g) hi hb hv hs hg
theorem m_giveWords {i s : Nat} (hi : NI i) (hb : Bd nv) (hs : s + 8 ≤ 960) : Er (d + 1) 16 (0, ent 16 [.ref i, .ref 40, .int (nI s)], [], KS σ nv sd g) (.inl none, KS (sar σ 40 (gvw (gal σ 40) s (nv i))) nv sd g, 0) := n_giveWords (σ := SL (SD σ sd) g) hi hb hs
theorem m_div {D i k : Nat} (hD : DI D) (hi : NI i) (hk : NI k) (i0 : i ≠ fr D 0) (i1 : i ≠ fr D 1) (k0 : k ≠ fr D 0) (k1 : k ≠ fr D 1) (k2 : k ≠ fr D 2) (hb : Bd nv) (hlt : nv i < 2 ^ 600) :
    ∃ x, x < 2 ^ 640 ∧ Er (d + 3) 6 (0, ent 6 [.ref D, .ref i, .ref k], [], KS σ nv sd g) (.inl none, KS σ (up (up (up nv (fr D 0) (nv i / nv k)) (fr D 1) (nv i % nv k)) (fr D 2) x) sd g, 0) := n_div (σ := SL (SD σ sd) g) hD hi hk i0 i1 k0 k1 k2 hb hlt
theorem r_isWhole {r : Nat} (hr : RI r) (hb : Bd nv) : Er (d + 2) 32 (0, ent 32 [.ref r], [], KS σ nv sd g) (.inl (some (.int (if nv (fr r 1) = 1 then 1 else 0))), KS σ nv sd g, 0) := by
  refine b32_0 hr.k hr.b.k (m_isOne hr.b hb) (b32_7 ?_)
  by_cases h : nv (fr r 1) = 1
  · rw [if_pos h]; rfl
  · rw [if_neg h]; rfl
theorem r_straighten (hb : Bd nv) : Er (d + 3) 31 (0, ent 31 [.ref 7], [], KS σ nv sd g) (.inl none, (if nv 12 = 0 then KS σ (up nv 13 1) (upi sd 7 0) g else KS σ nv sd g), 0) := by
  refine b31_0 k7 N12.k (m_isZero (i := 12) N12 hb) ?_
  by_cases h : nv 12 = 0
  · rw [if_pos h, if_pos h]
    refine b31_7 (fun q => absurd q (by decide)) (fun _ => ?_)
    refine b31_10 (σ2 := KS σ (up nv 13 1) (upi sd 7 0) g) k7s k7 N13.k ?_ b31_23
    rw [KS_ssd (by decide)]
    exact m_takeJ (i := 13) (n := 1) N13 hb (by decide)
  · rw [if_neg h, if_neg h]
    exact b31_7 (fun _ => b31_23) (fun q => absurd rfl q)
theorem r_takeWhole {i : Nat} {s : Int32} (hi : NI i) (hne : i ≠ 13) (hb : Bd nv) : Er (d + 4) 35 (0, ent 35 [.ref 7, .int s, .ref i], [], KS σ nv sd g) (.inl none, KS σ (up (up nv 12 (nv i)) 13 1) (upi sd 7 (if nv i = 0 then 0 else s)) g, 0) := by
  have b1 := Bd_up (i := 12) hb (hb i)
  have b2 := Bd_up (i := 13) (v := 1) b1 (Nat.one_lt_two_pow (by decide))
  refine b35_0 (σ2 := KS σ (up nv 12 (nv i)) (upi sd 7 s) g) k7s k7 N12.k ?_ ?_
  · rw [KS_ssd (by decide)]
    exact m_takeN (i := 12) N12 hi hb
  refine b35_13 k7 N13.k (m_takeJ (i := 13) (n := 1) N13 b1 (by decide)) ?_
  have h := r_straighten (d := d) (σ := σ) (sd := upi sd 7 s) (g := g) b2
  rw [up_n (i := 13) (j := 12) (by decide), up_s, up_up] at h
  have e : upi (upi sd 7 s) 7 0 = upi sd 7 0 := by
    funext j
    unfold upi
    by_cases q : j = 7
    · rw [if_pos q, if_pos q]
    · rw [if_neg q, if_neg q, if_neg q]
  rw [e] at h
  by_cases hz : nv i = 0
  · rw [if_pos hz] at h
    rw [if_pos hz]
    exact b35_21 k7 h b35_25
  · rw [if_neg hz] at h
    rw [if_neg hz]
    exact b35_21 k7 h b35_25
theorem r_take {r : Nat} (hr : RI r) (hne : r ≠ 7) (hb : Bd nv) : Er (d + 2) 36 (0, ent 36 [.ref 7, .ref r], [], KS σ nv sd g) (.inl none, KS σ (up (up nv 12 (nv (fr r 0))) 13 (nv (fr r 1))) (upi sd 7 (sd r)) g, 0) := by
  have b1 := Bd_up (i := 12) hb (hb (fr r 0))
  have hr1 := hr.1
  have hr2 := hr.2
  have e : up nv 12 (nv (fr r 0)) (fr r 1) = nv (fr r 1) := up_n (by rw [hr.f]; omega)
  refine b36_0 (σ2 := KS σ (up nv 12 (nv (fr r 0))) (upi sd 7 (sd r)) g) hr.k k7s k7 N12.k ?_ ?_
  · rw [KS_sd hr, KS_ssd (by decide)]
    exact m_takeN (i := 12) N12 hr.t hb
  have h := m_takeN (d := d) (i := 13) (σ := σ) (sd := upi sd 7 (sd r)) (g := g) N13 hr.b b1
  rw [e] at h
  exact b36_19 k7 hr.k N13.k h b36_30
theorem r_isWithin {m : Nat} (hm : m < 2 ^ 31) (hb : Bd nv) : Er (d + 3) 34 (0, ent 34 [.ref 6, .int (nI m)], [], KS σ nv sd g) (.inl (some (.int (if nv 11 = 1 ∧ nv 10 ≤ m then 1 else 0))), KS σ nv sd g, 0) := by
  have hl : bln (nv 10) ≤ 640 := by rw [bln_le]; exact hb 10
  refine b34_0 k6 (r_isWhole (r := 6) ⟨by decide, by decide⟩ hb) ?_
  by_cases h : nv 11 = 1
  · have e : (if nv (fr 6 1) = 1 then (1 : Int32) else 0) = 1 := if_pos h
    rw [e]
    refine b34_4 (fun q => absurd q (by decide)) (fun _ => ?_)
    refine b34_7 k6 N10.k (m_len (i := 10) N10 hb) (b34_14 (fun q => ?_) (fun q => ?_))
    · rw [show (32 : Int32) = nI 32 from rfl, nI_leI (by decide) (by omega)] at q
      rw [if_neg]
      · exact b34_36 (b34_37 rfl)
      · intro ⟨_, h2⟩
        have : ¬ bln (nv 10) ≤ 31 := by omega
        rw [bln_le] at this
        omega
    · rw [show (32 : Int32) = nI 32 from rfl, nI_leI (by decide) (by omega)] at q
      have h31 : nv 10 < 2 ^ 31 := bln_le.mp (by omega)
      refine b34_19 k6 N10.k (m_lowest (i := 10) N10 hb) ?_
      rw [Nat.mod_eq_of_lt (by omega)]
      refine b34_26 (fun z => ?_) (fun z => ?_)
      · rw [nI_l hm, pk_lLT (by omega) (by omega)] at z
        rw [if_neg (by omega)]
        exact b34_36 (b34_37 rfl)
      · rw [nI_l hm, pk_lLT (by omega) (by omega)] at z
        rw [if_pos ⟨h, by omega⟩]
        exact b34_32 (b34_37 rfl)
  · have e : (if nv (fr 6 1) = 1 then (1 : Int32) else 0) = 0 := if_neg h
    rw [e, if_neg (fun q => h q.1)]
    exact b34_4 (fun _ => b34_36 (b34_37 rfl)) (fun q => absurd rfl q)
/-- the room that twice times and again takes -/
theorem r_times {z : Int} {gr sh t m : Nat} (hz1 : -2000 ≤ z) (hz2 : z ≤ 2000) (hs : sd 7 ≠ 0) (hgs : (0 < z ∧ gr = 12 ∧ sh = 13) ∨ (z ≤ 0 ∧ gr = 13 ∧ sh = 12)) (hb : Bd nv) (hsh : nv sh = 2 ^ t * (2 * m + 1)) :
    Er (d + 6) 33 (0, ent 33 [.ref 7, .int (iZ z)], [], KS σ nv sd g) (if 256 < bln (nv gr) + (z.natAbs - min z.natAbs t) then (.inr 3, KS σ nv sd g, 1) else (.inl none, KS σ (up (up nv sh (nv sh / 2 ^ min z.natAbs t)) gr (nv gr * 2 ^ (z.natAbs - min z.natAbs t))) sd g, 0)) := by
  have hgr : NI gr := by rcases hgs with ⟨_, rfl, _⟩ | ⟨_, rfl, _⟩ <;> exact ⟨by decide, by decide⟩
  have hshN : NI sh := by rcases hgs with ⟨_, _, rfl⟩ | ⟨_, _, rfl⟩ <;> exact ⟨by decide, by decide⟩
  have hne : gr ≠ sh := by rcases hgs with ⟨_, rfl, rfl⟩ | ⟨_, rfl, rfl⟩ <;> decide
  have ht640 : t < 640 := by
    apply Nat.lt_of_not_le
    intro h
    have h1 := hb sh
    rw [hsh] at h1
    have h2 : 2 ^ 640 ≤ 2 ^ t := Nat.pow_le_pow_right (by decide) h
    have h3 : 2 ^ t * 1 ≤ 2 ^ t * (2 * m + 1) := Nat.mul_le_mul_left _ (by omega)
    omega
  have hl : bln (nv gr) ≤ 640 := by rw [bln_le]; exact hb gr
  have t0 : (0 : Int32).toInt = 0 := rfl
  have habs : (if (0 : Int32) ≤ iZ z then iZ z else 0 - iZ z) = nI z.natAbs := by
    by_cases h : 0 ≤ z
    · rw [if_pos (by rw [i_le, iZ_t (by omega) (by omega), t0]; exact h), ← iZ_N]
      congr 1
      omega
    · rw [if_neg (by rw [i_le, iZ_t (by omega) (by omega), t0]; exact h), show (0 : Int32) = iZ 0 from rfl, iZ_sub, ← iZ_N]
      congr 1
      omega
  have pos : iZ z ≤ 0 ↔ z ≤ 0 := by rw [i_le, iZ_t (by omega) (by omega), t0]
  obtain ⟨a, ha⟩ : ∃ a, a = z.natAbs := ⟨_, rfl⟩
  rw [← ha] at habs ⊢
  have ha2 : a ≤ 2000 := by omega
  have body : Er (d + 6) 33 (39, [some (.ref 7), some (.int (iZ z)), some (.ref gr), none, none, none], [.ref sh], KS σ nv sd g) (if 256 < bln (nv gr) + (a - min a t) then (.inr 3, KS σ nv sd g, 1) else (.inl none, KS σ (up (up nv sh (nv sh / 2 ^ min a t)) gr (nv gr * 2 ^ (a - min a t))) sd g, 0)) := by
    refine b33_39 hshN.k (m_zerosBelow hshN hb hsh) ?_
    refine b33_48 hgr.k (m_len hgr hb) ?_
    rw [habs, imin (by omega) (by omega), pk_sub (by omega)]
    refine b33_66 (fun q => ?_) (fun q => ?_)
    · rw [nI_add, show (256 : Int32) = nI 256 from rfl, nI_leI (by omega) (by decide)] at q
      rw [if_neg (by omega)]
      have b1 := Bd_up (i := sh) hb (v := nv sh / 2 ^ min a t) (Nat.lt_of_le_of_lt (Nat.div_le_self _ _) (hb sh))
      have eg : up nv sh (nv sh / 2 ^ min a t) gr = nv gr := up_n hne
      have hup : nv gr * 2 ^ (a - min a t) < 2 ^ 640 := by
        have h1 := bln_lt (v := nv gr)
        have h2 : nv gr * 2 ^ (a - min a t) < 2 ^ (bln (nv gr) + (a - min a t)) := by
          rw [Nat.pow_add]
          exact Nat.mul_lt_mul_of_pos_right h1 (Nat.two_pow_pos _)
        exact Nat.lt_of_lt_of_le h2 (Nat.pow_le_pow_right (by decide) (by omega))
      refine b33_85 hshN.k (m_shiftDown hshN hb (by omega)) ?_
      have h := m_shiftUp (d := d + 3) (σ := σ) (sd := sd) (g := g) (n := a - min a t) hgr b1 (by omega) (by rw [eg]; exact hup)
      rw [eg] at h
      exact b33_91 hgr.k h b33_97
    · rw [nI_add, show (256 : Int32) = nI 256 from rfl, nI_leI (by omega) (by decide)] at q
      rw [if_pos (by omega)]
      exact b33_75
  refine b33_0 k7 (fun _ => ?_) (fun q => absurd (by rw [KS_sd (by decide)] at q; exact q) hs)
  rcases hgs with ⟨h, rfl, rfl⟩ | ⟨h, rfl, rfl⟩
  · refine b33_8 (fun q => absurd (pos.mp q) (by omega)) (fun _ => b33_12 k7 ?_)
    refine b33_23 (fun q => absurd (pos.mp q) (by omega)) (fun _ => b33_28 k7 ?_)
    exact body
  · refine b33_8 (fun _ => b33_19 k7 ?_) (fun q => absurd (pos.mpr h) q)
    refine b33_23 (fun _ => b33_35 k7 ?_) (fun q => absurd (pos.mpr h) q)
    exact body
theorem r_times0 {x : Int32} (hs : sd 7 = 0) : Er (d + 1) 33 (0, ent 33 [.ref 7, .int x], [], KS σ nv sd g) (.inl none, KS σ nv sd g, 0) := by
  refine b33_0 k7 (fun q => absurd (by rw [KS_sd (by decide)]; exact hs) q) (fun _ => b33_7)
end
