/-! Naturals: wipe, measure, reads -/
theorem n20 {v : Nat} (h : v < 2 ^ 640) : nd v ≤ 20 := nd_le.mpr h
theorem c_wipe {d i v : Nat} {σ : St} (hi : NI i) (h : Nt σ i v) : Er (d + 1) 12 (0, ent 12 [.ref i], [], σ) (.inl none, sN σ i 0, 0) := by
  have hn := n20 h.2.2
  have loop : ∀ n k, k + n = nd v → Er (d + 1) 12 (2, [some (.ref i), some (.int (nI k))], [], rN σ i (fun j => if j < k then 0 else dgs v j) (nI (nd v))) (.inl none, sN σ i 0, 0) := by
    intro n
    induction n with
    | zero =>
      intro k hk
      refine b12_2 hi.k (fun _ => ?_) (fun hc => ?_)
      · have e := b12_23 (d := d) (x0 := i) (x1 := nI k) (σ := rN σ i (fun j => if j < k then 0 else dgs v j) (nI (nd v))) hi.s
        rw [rN_sfi] at e
        have ef : (fun j => if j < k then 0 else dgs v j) = dgs 0 := by
          rw [dgs_0]
          funext j
          by_cases hj : j < k
          · rw [if_pos hj]
          · rw [if_neg hj]
            show lN (dg v j) = 0
            rw [dg_z (nd_lt v) (by omega)]
            rfl
        rw [ef] at e ⊢
        exact e
      · rw [rN_n, nI_leI (by omega) (by omega)] at hc
        omega
    | succ n ih =>
      intro k hk
      refine b12_2 hi.k (fun hc => ?_) (fun _ => ?_)
      · rw [rN_n, nI_leI (by omega) (by omega)] at hc
        omega
      · refine b12_10 hi.k (hi.w (by omega)) ?_
        rw [hi.f, nI_32 (by omega), rN_sal, nI_1]
        have ef : vp_updL (fun j => if j < k then 0 else dgs v j) k 0 = fun j => if j < k + 1 then 0 else dgs v j := by
          funext j
          unfold vp_updL
          by_cases hj : j = k
          · subst hj; simp
          · rw [if_neg hj]
            show (if j < k then 0 else dgs v j) = _
            by_cases h2 : j < k
            · rw [if_pos h2, if_pos (by omega)]
            · rw [if_neg h2, if_neg (by omega)]
        rw [ef]
        exact ih (k + 1) (by omega)
  have h0 := loop (nd v) 0 (by omega)
  have e0 : rN σ i (fun j => if j < 0 then 0 else dgs v j) (nI (nd v)) = σ := by
    have : (fun j => if j < 0 then 0 else dgs v j) = dgs v := by funext j; simp
    rw [this]
    exact h.self
  rw [e0] at h0
  exact b12_0 h0
theorem c_measure {d i v e : Nat} {σ : St} (hi : NI i) (hf : gal σ (i + 16) = dgs v) (he : e ≤ 20) (hv : v < 2 ^ (32 * e)) : Er (d + 1) 13 (0, ent 13 [.ref i, .int (nI e)], [], σ) (.inl none, sN σ i v, 0) := by
  have hnd : nd v ≤ e := nd_le.mpr hv
  have loop : ∀ n k, k = nd v + n → k ≤ 20 → Er (d + 1) 13 (16, [some (.ref i), some (.int (nI e))], [], rN σ i (dgs v) (nI k)) (.inl none, sN σ i v, 0) := by
    intro n
    induction n with
    | zero =>
      intro k hk h20
      rw [Nat.add_zero] at hk
      subst hk
      have fin : Er (d + 1) 13 (52, [some (.ref i), some (.int (nI e))], [], rN σ i (dgs v) (nI (nd v))) (.inl none, sN σ i v, 0) := b13_52
      refine b13_16 hi.k (fun _ => fin) (fun hc => ?_)
      rw [rN_n, ← nI_0, nI_leI (by omega) (by omega)] at hc
      have e1 : nI (nd v) - 1 = nI (nd v - 1) := by
        obtain ⟨j, hj⟩ : ∃ j, nd v = j + 1 := ⟨nd v - 1, by omega⟩
        rw [hj, nI_pred]
        rfl
      refine b13_23 hi.k ?_ (fun _ => fin) (fun hz => ?_)
      · rw [rN_n, e1]
        exact hi.w (by omega)
      · rw [rN_n, e1, hi.f, rN_f, nI_32 (by omega)] at hz
        have hz : lN (dg v (nd v - 1)) = 0 := hz
        rw [lN_ne0 (dg_lt _ _), dg_top0 (by rw [Nat.sub_add_cancel (by omega)]; exact nd_lt v), ← nd_le] at hz
        omega
    | succ n ih =>
      intro k hk h20
      refine b13_16 hi.k (fun hc => ?_) (fun _ => ?_)
      · rw [rN_n, ← nI_0, nI_leI (by omega) (by omega)] at hc
        omega
      · have e1 : nI k - 1 = nI (k - 1) := by
          obtain ⟨j, hj⟩ : ∃ j, k = j + 1 := ⟨k - 1, by omega⟩
          rw [hj, nI_pred]
          rfl
        refine b13_23 hi.k ?_ (fun hz => ?_) (fun _ => ?_)
        · rw [rN_n, e1]
          exact hi.w (by omega)
        · rw [rN_n, e1, hi.f, rN_f, nI_32 (by omega)] at hz
          have hz : ¬ lN (dg v (k - 1)) = 0 := hz
          rw [lN_ne0 (dg_lt _ _)] at hz
          exact absurd (dg_z (nd_lt v) (by omega)) hz
        · refine b13_39 hi.k hi.s ?_
          rw [rN_n, rN_sfi, e1]
          exact ih (k - 1) (by omega) (by omega)
  have start : ∀ k, k ≤ 20 → nd v ≤ k → Er (d + 1) 13 (13, [some (.ref i), some (.int (nI e))], [.int (nI k), .ref i], σ) (.inl none, sN σ i v, 0) := by
    intro k hk hk2
    refine b13_13 hi.s ?_
    have h := loop (k - nd v) k (by omega) hk
    have e1 : sfi σ i 1 (nI k) = rN σ i (dgs v) (nI k) := by
      rw [← hf]
      conv => lhs; rw [← rN_self σ i]
      rw [rN_sfi]
    rw [e1]
    exact h
  refine b13_0 (fun hc => ?_) (fun hc => ?_)
  · refine b13_11 ?_
    exact start 20 (Nat.le_refl _) (by omega)
  · refine b13_7 ?_
    exact start e he hnd
theorem c_isZero {d i v : Nat} {σ : St} (hi : NI i) (h : Nt σ i v) : Er (d + 1) 17 (0, ent 17 [.ref i], [], σ) (.inl (some (.int (if v = 0 then 1 else 0))), σ, 0) := by
  have hn := n20 h.2.2
  refine b17_0 hi.k (fun hc => ?_) (fun hc => ?_)
  · rw [h.2.1, ← nI_0, nI_eq (by omega) (by decide)] at hc
    have : ¬ v = 0 := by
      rintro rfl
      exact hc nd_0
    rw [if_neg this]
    exact b17_11 (b17_12 rfl)
  · rw [h.2.1, ← nI_0, nI_eq (by omega) (by decide)] at hc
    have : v = 0 := by
      have := nd_pos (v := v)
      omega
    rw [if_pos this]
    exact b17_7 (b17_12 rfl)
theorem imin {x y : Nat} (hx : x < 2 ^ 31) (hy : y < 2 ^ 31) : (if nI y < nI x then nI y else nI x) = nI (min x y) := by
  by_cases h : y < x
  · rw [if_pos (nI_lt h hx), Nat.min_eq_right (by omega)]
  · rw [if_neg (nI_nlt (by omega) hy), Nat.min_eq_left (by omega)]
theorem imax {x y : Nat} (hx : x < 2 ^ 31) (hy : y < 2 ^ 31) : (if nI x < nI y then nI y else nI x) = nI (max x y) := by
  by_cases h : x < y
  · rw [if_pos (nI_lt h hy), Nat.max_eq_right (by omega)]
  · rw [if_neg (nI_nlt (by omega) hx), Nat.max_eq_left (by omega)]
theorem rN_of {σ : St} {i k : Nat} {f : Nat → Int64} {n : Int32} (h : k ≠ i) : gal (rN σ i f n) (k + 16) = gal σ (k + 16) := by
  unfold rN
  rw [gal_sfi, gal_sar, if_neg (by omega)]
theorem rN_on {σ : St} {i k : Nat} {f : Nat → Int64} {n : Int32} (h : k ≠ i) : gfi (rN σ i f n) k 1 = gfi σ k 1 := by
  unfold rN
  rw [gfi_sfi, if_neg (by omega), gfi_sar]
theorem rN_Nt {σ : St} {i k v : Nat} {f : Nat → Int64} {n : Int32} (h : k ≠ i) (hk : Nt σ k v) : Nt (rN σ i f n) k v := ⟨by rw [rN_of h]; exact hk.1, by rw [rN_on h]; exact hk.2.1, hk.2.2⟩
theorem Nt.rN {σ : St} {i v : Nat} (h : Nt σ i v) : rN σ i (dgs v) (nI (nd v)) = σ := h.self
theorem rd {σ : St} {i v j : Nat} (hi : NI i) (h : gal σ (i + 16) = dgs v) (hj : j < 2 ^ 31) : gal σ (fr i 0) (nI j).toNatClampNeg = lN (dg v j) := by
  rw [hi.f, h, nI_32 hj]
  rfl
/-! the length of a long -/
def cmpI (x y : Int) : Int32 := if x = y then 0 else if x < y then -1 else 1
theorem c_compare {d : Nat} {x y : Int64} {σ : St} : Er (d + 1) 40 (0, ent 40 [.long x, .long y], [], σ) (.inl (some (.int (cmpI x.toInt y.toInt))), σ, 0) := by
  unfold cmpI
  refine b40_0 (fun h => ?_) (fun h => ?_)
  · rw [if_neg (fun g => h (l_eq.mpr g))]
    refine b40_8 (fun g => ?_) (fun g => ?_)
    · rw [if_neg (fun k => g (l_lt.mpr k))]
      exact b40_18 b40_19
    · rw [if_pos (l_lt.mp g)]
      exact b40_14 b40_19
  · rw [if_pos (l_eq.mp h)]
    exact b40_6
theorem c_length {d n : Nat} {σ : St} (hn : n < 2 ^ 64) : Er (d + 1) 44 (0, ent 44 [.long (lN n)], [], σ) (.inl (some (.int (nI (bln n)))), σ, 0) := by
  have fin : ∀ l h, h < 2 → bln n = l + bln h → Er (d + 1) 44 (8, [some (.long (lN n)), none, some (.int (nI l)), some (.long (lN h)), none, some (.int 0)], [], σ) (.inl (some (.int (nI (bln n)))), σ, 0) := by
    intro l h hh e
    refine b44_8 (fun _ => ?_) (fun g => absurd (Int32.le_refl 0) g)
    have := b44_41 (d := d) (x0 := lN n) (x2 := nI l) (x3 := lN h) (x5 := 0) (σ := σ)
    rw [lN_i, nI_add] at this
    have e2 : bln h = h := by
      rcases (by omega : h = 0 ∨ h = 1) with rfl | rfl
      · rfl
      · rfl
    rw [e, e2]
    exact this
  have stp1 : ∀ (w : Nat) (l h : Nat), 0 < w → w < 64 → h < 2 ^ (w + w) → bln n = l + bln h →
      (∀ l h, h < 2 ^ w → bln n = l + bln h → Er (d + 1) 44 (8, [some (.long (lN n)), none, some (.int (nI l)), some (.long (lN h)), none, some (.int (nI (w / 2)))], [], σ) (.inl (some (.int (nI (bln n)))), σ, 0)) →
      h < 2 ^ 64 →
      Er (d + 1) 44 (8, [some (.long (lN n)), none, some (.int (nI l)), some (.long (lN h)), none, some (.int (nI w))], [], σ) (.inl (some (.int (nI (bln n)))), σ, 0) := by
    intro w l h h0 hw hh e next h64
    refine b44_8 (fun g => absurd g (nI_nle h0 (by omega))) (fun _ => ?_)
    have hd : nI w / 2 = nI (w / 2) := pk_div (d := 2) (by omega) (by decide) (by decide)
    refine b44_13 (fun g => ?_) (fun g => ?_)
    · rw [ushr_N w h64 rfl hw] at g
      have g2 : h / 2 ^ w = 0 := (lN_inj (Nat.lt_of_le_of_lt (Nat.div_le_self _ _) h64) (by decide)).mp g
      have g3 : h < 2 ^ w := by
        rcases Nat.div_eq_zero_iff.mp g2 with g | g
        · exact absurd g (Nat.pos_iff_ne_zero.mp (Nat.two_pow_pos w))
        · exact g
      refine b44_32 (by decide) ?_
      rw [hd]
      exact next l h g3 e
    · rw [ushr_N w h64 rfl hw] at g
      have g2 : h / 2 ^ w ≠ 0 := fun k => g (by rw [k]; rfl)
      refine b44_22 (b44_32 (by decide) ?_)
      rw [hd, ushr_N w h64 rfl hw, nI_add]
      refine next (l + w) (h / 2 ^ w) ?_ ?_
      · rw [Nat.div_lt_iff_lt_mul (Nat.two_pow_pos w), ← Nat.pow_add]
        exact hh
      · rw [e, Nat.add_assoc, Nat.add_left_cancel_iff]
        have hp : 0 < h / 2 ^ w := Nat.pos_of_ne_zero g2
        have hb := bln_pos.mpr hp
        refine bln_eq ?_ ?_ (by omega)
        · have := bln_lt (v := h / 2 ^ w)
          rw [Nat.div_lt_iff_lt_mul (Nat.two_pow_pos w), ← Nat.pow_add, Nat.add_comm] at this
          exact this
        · have := bln_ge hp
          rw [Nat.le_div_iff_mul_le (Nat.two_pow_pos w), ← Nat.pow_add] at this
          have e : w + bln (h / 2 ^ w) - 1 = bln (h / 2 ^ w) - 1 + w := by omega
          rw [e]
          exact this
  have lt64 : ∀ {h w : Nat}, w ≤ 64 → h < 2 ^ w → h < 2 ^ 64 := fun hw h => Nat.lt_of_lt_of_le h (Nat.pow_le_pow_right (by decide) hw)
  refine b44_0 ?_
  refine stp1 32 0 n (by decide) (by decide) hn (by omega) (fun l h hh e => ?_) hn
  refine stp1 16 l h (by decide) (by decide) hh e (fun l h hh e => ?_) (lt64 (by decide) hh)
  refine stp1 8 l h (by decide) (by decide) hh e (fun l h hh e => ?_) (lt64 (by decide) hh)
  refine stp1 4 l h (by decide) (by decide) hh e (fun l h hh e => ?_) (lt64 (by decide) hh)
  refine stp1 2 l h (by decide) (by decide) hh e (fun l h hh e => ?_) (lt64 (by decide) hh)
  refine stp1 1 l h (by decide) (by decide) hh e (fun l h hh e => ?_) (lt64 (by decide) hh)
  exact fin l h hh e
/-! words -/
def wat (f : Nat → Int64) (z : Int) : Int64 := if 0 ≤ z ∧ z < 20 then f z.toNat else 0
theorem c_wordAt {d i : Nat} {z : Int} {σ : St} (hi : NI i) (h1 : -2 ^ 31 ≤ z) (h2 : z < 2 ^ 31) : Er (d + 1) 15 (0, ent 15 [.ref i, .int (iZ z)], [], σ) (.inl (some (.long (wat (gal σ (i + 16)) z))), σ, 0) := by
  unfold wat
  have t0 : (0 : Int32).toInt = 0 := rfl
  have t20 : (20 : Int32).toInt = 20 := rfl
  refine b15_0 (fun g => ?_) (fun g => ?_)
  · rw [i_lt, iZ_t h1 h2, t0] at g
    rw [if_neg (by omega)]
    exact b15_19 b15_20
  · rw [i_lt, iZ_t h1 h2, t0] at g
    refine b15_4 (fun g2 => ?_) (fun g2 => ?_)
    · rw [i_le, iZ_t h1 h2, t20] at g2
      rw [if_neg (by omega)]
      exact b15_19 b15_20
    · rw [i_le, iZ_t h1 h2, t20] at g2
      obtain ⟨j, rfl⟩ : ∃ j : Nat, z = j := ⟨z.toNat, by omega⟩
      rw [iZ_N, if_pos (by omega)]
      refine b15_10 hi.k (hi.w (by omega)) ?_
      rw [hi.f, nI_32 (by omega)]
      exact b15_20
theorem wat_N {v j : Nat} (hv : v < 2 ^ 640) : wat (dgs v) (j : Int) = lN (dg v j) := by
  unfold wat
  by_cases h : j < 20
  · rw [if_pos (by omega)]; rfl
  · rw [if_neg (by omega), dg_z (n := 20) hv (by omega)]; rfl
theorem c_wordAtN {d i v j : Nat} {σ : St} (hi : NI i) (hf : gal σ (i + 16) = dgs v) (hv : v < 2 ^ 640) (hj : j < 2 ^ 31) : Er (d + 1) 15 (0, ent 15 [.ref i, .int (nI j)], [], σ) (.inl (some (.long (lN (dg v j)))), σ, 0) := by
  have := c_wordAt (d := d) (z := (j : Int)) (σ := σ) hi (by omega) (by omega)
  rw [hf, wat_N hv, iZ_N] at this
  exact this
theorem bln_top {v : Nat} (h : 0 < v) : bln v = 32 * (nd v - 1) + bln (dg v (nd v - 1)) := by
  have hp := nd_pos.mpr h
  have hl : v < Bp (nd v - 1 + 1) := by
    rw [Nat.sub_add_cancel hp]
    exact nd_self v
  have hge : Bp (nd v - 1) ≤ v := by
    have : ¬ nd v ≤ nd v - 1 := by omega
    rw [nd_Bp] at this
    omega
  rw [dg_top hl]
  have hq : 0 < v / 2 ^ (32 * (nd v - 1)) := Nat.div_pos hge (Nat.two_pow_pos _)
  have hb := bln_pos.mpr hq
  refine bln_eq ?_ ?_ (by omega)
  · have := bln_lt (v := v / 2 ^ (32 * (nd v - 1)))
    rw [Nat.div_lt_iff_lt_mul (Nat.two_pow_pos _), ← Nat.pow_add, Nat.add_comm] at this
    exact this
  · have := bln_ge hq
    rw [Nat.le_div_iff_mul_le (Nat.two_pow_pos _), ← Nat.pow_add] at this
    rw [show ∀ a b : Nat, 0 < b → a + b - 1 = b - 1 + a from fun a b h => by omega]
    · exact this
    · exact hb
theorem c_len {d i v : Nat} {σ : St} (hi : NI i) (h : Nt σ i v) : Er (d + 2) 14 (0, ent 14 [.ref i], [], σ) (.inl (some (.int (nI (bln v)))), σ, 0) := by
  have hn := n20 h.2.2
  refine b14_0 hi.k (fun g => ?_) (fun g => ?_)
  · rw [h.2.1, ← nI_0, nI_eq (by omega) (by decide)] at g
    have e1 : gfi σ i 1 - 1 = nI (nd v - 1) := by
      rw [h.2.1]
      exact pk_sub (b := 1) (by omega)
    refine b14_11 (r := lN (dg v (nd v - 1))) (σ2 := σ) hi.k ?_ ?_
    · rw [e1]
      exact c_wordAtN hi h.1 h.2.2 (by omega)
    · have hv : 0 < v := nd_pos.mp (by omega)
      refine b14_30 (c_length (Nat.lt_trans (dg_lt _ _) (by decide))) (b14_33 ?_)
      rw [e1, show (32 : Int32) = nI 32 from rfl, pk_mul, nI_add, bln_top hv, Nat.mul_comm]
      exact b14_34
  · rw [h.2.1, ← nI_0, nI_eq (by omega) (by decide)] at g
    have hv : v = 0 := by
      have := nd_pos (v := v)
      omega
    subst hv
    exact b14_7 b14_34
