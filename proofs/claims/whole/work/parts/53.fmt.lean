/-! Format: encode -/
def isK (x A D K : Nat) : Prop := A / (D * 2 ^ K) < 2 ^ (fb x + 1) ∧ (K = 0 ∨ 2 ^ fb x ≤ A / (D * 2 ^ K))
def enc (x : Nat) (b : Bool) (dir A D K : Nat) : Nat := if fe x ≤ K + 1 then bey x dir b else if fe x * 2 ^ fb x ≤ K * 2 ^ fb x + rndQ dir b A (D * 2 ^ K) then bey x dir b else K * 2 ^ fb x + rndQ dir b A (D * 2 ^ K)
def sbit (x : Nat) (b : Bool) : Nat := if b then 2 ^ fs x else 0
theorem isK_lt {x A D K K2 : Nat} (hD : 0 < D) (h : isK x A D K) (h2 : isK x A D K2) : ¬ K < K2 := by
  intro g
  have a := h.1
  have b := h2.2.resolve_left (by omega)
  have hp : 0 < D * 2 ^ K2 := Nat.mul_pos hD (Nat.two_pow_pos _)
  have hq : 0 < D * 2 ^ K := Nat.mul_pos hD (Nat.two_pow_pos _)
  rw [Nat.le_div_iff_mul_le hp] at b
  rw [Nat.div_lt_iff_lt_mul hq] at a
  have e : 2 ^ fb x * (D * 2 ^ K2) = 2 ^ (fb x + 1) * (D * 2 ^ K) * 2 ^ (K2 - K - 1) := by
    have : 2 ^ K2 = 2 * 2 ^ K * 2 ^ (K2 - K - 1) := by
      rw [← Nat.pow_succ', ← Nat.pow_add]
      congr 1
      omega
    rw [this, Nat.pow_succ]
    generalize 2 ^ fb x = p
    generalize 2 ^ K = q
    generalize 2 ^ (K2 - K - 1) = r
    ac_rfl
  have : 2 ^ (fb x + 1) * (D * 2 ^ K) * 1 ≤ 2 ^ (fb x + 1) * (D * 2 ^ K) * 2 ^ (K2 - K - 1) := Nat.mul_le_mul_left _ (Nat.two_pow_pos _)
  omega
theorem isK_eq {x A D K K2 : Nat} (hD : 0 < D) (h : isK x A D K) (h2 : isK x A D K2) : K = K2 := by
  have a := isK_lt hD h h2
  have b := isK_lt hD h2 h
  omega
theorem isK_scale {x A D K c : Nat} (hc : 0 < c) : isK x (A * c) (D * c) K ↔ isK x A D K := by
  unfold isK
  rw [show D * c * 2 ^ K = D * 2 ^ K * c by rw [Nat.mul_right_comm], Nat.mul_div_mul_right _ _ hc]
theorem enc_scale {x A D K c dir : Nat} {b : Bool} (hc : 0 < c) : enc x b dir (A * c) (D * c) K = enc x b dir A D K := by
  unfold enc
  rw [show D * c * 2 ^ K = D * 2 ^ K * c by rw [Nat.mul_right_comm], rndQ_scale hc]
theorem bey_lt {x dir : Nat} {b : Bool} (h : FO x) : bey x dir b < 2 ^ fs x := by
  have := h.i
  have := Nat.two_pow_pos (fb x)
  unfold bey
  by_cases c : dir = 3 ∨ dir = (if b then 1 else 2)
  · rw [if_pos c]; omega
  · rw [if_neg c]; omega
theorem enc_lt {x A D K dir : Nat} {b : Bool} (h : FO x) : enc x b dir A D K < 2 ^ fs x := by
  have := h.i
  have := Nat.two_pow_pos (fb x)
  unfold enc
  split
  · exact bey_lt h
  · split
    · exact bey_lt h
    · omega
section
variable {d x : Nat} {S : St}
theorem f_encode0 {b r : Bool} {dir : Nat} {z : Int32} (h : FO x) : Er (d + 2) 148 (0, ent 148 [.ref x, .int (if b then 1 else 0), .long (lN 0), .int z, .int (if r then 1 else 0), .int (nI dir)], [], S) (.inl (some (.long (lN (sbit x b)))), S, 0) := by
  have t := f_signed (d := d) (x := x) (n := 0) (S := S) (b := b) h (Nat.two_pow_pos _)
  rw [Nat.zero_add] at t
  exact b148_0 (fun z => absurd rfl z) (fun _ => b148_6 h t b148_12)
theorem pow_split {a b c : Nat} (h : a + b = c) : 2 ^ a * 2 ^ b = 2 ^ c := by rw [← Nat.pow_add, h]
theorem f_encode {N D dir K : Nat} {b : Bool} {z : Int} (h : FO x) (hD : 0 < D) (hs0 : 0 < N / D) (hs : N / D < 2 ^ 60) (hz1 : -10000 ≤ z) (hz2 : z ≤ 10000) (hd : dir < 4) (hrest : N % D ≠ 0 → fb x + 2 ≤ bln (N / D))
    (hK : isK x (N * 2 ^ (z + fz x).toNat) (D * 2 ^ (-(z + fz x)).toNat) K) :
    Er (d + 2) 148 (0, ent 148 [.ref x, .int (if b then 1 else 0), .long (lN (N / D)), .int (iZ z), .int (if N % D ≠ 0 then 1 else 0), .int (nI dir)], [], S) (.inl (some (.long (lN (enc x b dir (N * 2 ^ (z + fz x).toNat) (D * 2 ^ (-(z + fz x)).toNat) K + sbit x b)))), S, 0) := by
  obtain ⟨x1, x2, x3, x4, x5, x6, x7, x8, x9, x10⟩ := h.s
  have hl := h.l
  have hi := h.i
  obtain ⟨s, hsv⟩ : ∃ s, s = N / D := ⟨_, rfl⟩
  rw [← hsv] at hs0 hs hrest
  obtain ⟨L, hL⟩ : ∃ L, L = bln s := ⟨_, rfl⟩
  have hL0 : 0 < L := by rw [hL]; exact bln_pos.mpr hs0
  have hL60 : L ≤ 60 := by rw [hL, bln_le]; exact hs
  have hs1 := bln_ge hs0
  have hs2 := bln_lt (v := s)
  rw [← hL] at hs1 hs2 hrest
  have hN1 : 2 ^ (L - 1) * D ≤ N := by
    rw [hsv, Nat.le_div_iff_mul_le hD] at hs1
    exact hs1
  have hN2 : N < 2 ^ L * D := by
    rw [hsv, Nat.div_lt_iff_lt_mul hD] at hs2
    exact hs2
  obtain ⟨v, hv⟩ : ∃ v, v = (z + fz x).toNat := ⟨_, rfl⟩
  obtain ⟨u, hu⟩ : ∃ u, u = (-(z + fz x)).toNat := ⟨_, rfl⟩
  rw [← hv, ← hu] at hK ⊢
  -- the step that the class takes
  obtain ⟨K0, hK0⟩ : ∃ K0 : Nat, (K0 : Int) = max ((L : Int) + z - fb x - 1) (-(fz x : Int)) + fz x := ⟨(max ((L : Int) + z - fb x - 1) (-(fz x : Int)) + fz x).toNat, by omega⟩
  have hKK : isK x (N * 2 ^ v) (D * 2 ^ u) K0 := by
    have hden : D * 2 ^ u * 2 ^ K0 = D * 2 ^ (u + K0) := by rw [Nat.mul_assoc, ← Nat.pow_add]
    have hdp : 0 < D * 2 ^ (u + K0) := Nat.mul_pos hD (Nat.two_pow_pos _)
    unfold isK
    rw [hden]
    refine ⟨?_, ?_⟩
    · rw [Nat.div_lt_iff_lt_mul hdp]
      have a1 : N * 2 ^ v < 2 ^ L * D * 2 ^ v := Nat.mul_lt_mul_of_pos_right hN2 (Nat.two_pow_pos v)
      have a2 : 2 ^ L * D * 2 ^ v = D * 2 ^ (L + v) := by rw [Nat.pow_add]; generalize 2 ^ L = p; generalize 2 ^ v = q; ac_rfl
      have a3 : 2 ^ (fb x + 1) * (D * 2 ^ (u + K0)) = D * 2 ^ (fb x + 1 + (u + K0)) := by rw [Nat.pow_add 2 (fb x + 1)]; generalize 2 ^ (fb x + 1) = p; generalize 2 ^ (u + K0) = q; ac_rfl
      rw [a2] at a1
      rw [a3]
      exact Nat.lt_of_lt_of_le a1 (Nat.mul_le_mul_left _ (Nat.pow_le_pow_right (by decide) (by omega)))
    · by_cases c : K0 = 0
      · exact Or.inl c
      · refine Or.inr ?_
        rw [Nat.le_div_iff_mul_le hdp]
        have a1 : 2 ^ (L - 1) * D * 2 ^ v ≤ N * 2 ^ v := Nat.mul_le_mul_right _ hN1
        have a2 : 2 ^ (L - 1) * D * 2 ^ v = D * 2 ^ (L - 1 + v) := by rw [Nat.pow_add]; generalize 2 ^ (L - 1) = p; generalize 2 ^ v = q; ac_rfl
        have a3 : 2 ^ fb x * (D * 2 ^ (u + K0)) = D * 2 ^ (fb x + (u + K0)) := by rw [Nat.pow_add 2 (fb x)]; generalize 2 ^ fb x = p; generalize 2 ^ (u + K0) = q; ac_rfl
        rw [a3, show fb x + (u + K0) = L - 1 + v by omega, ← a2]
        exact a1
  have hDu : 0 < D * 2 ^ u := Nat.mul_pos hD (Nat.two_pow_pos _)
  have hKe := isK_eq hDu hKK hK
  subst hKe
  have hK1 := hKK.1
  -- the int of the step
  have est : (if (((nI L + iZ z) - efi x 0) - (1 : Int32)) < efi x 2 then efi x 2 else (((nI L + iZ z) - efi x 0) - (1 : Int32))) = iZ ((K0 : Int) - fz x) := by
    rw [h.b0, h.b2, ← iZ_N L, ← iZ_N (fb x), iZ_add, iZ_sub, show (1 : Int32) = iZ 1 from rfl, iZ_sub]
    by_cases c : (L : Int) + z - fb x - 1 < -(fz x : Int)
    · rw [if_pos ((iZ_lt (by omega) (by omega) (by omega) (by omega)).mpr c)]
      congr 1
      omega
    · rw [if_neg (fun w => c ((iZ_lt (by omega) (by omega) (by omega) (by omega)).mp w))]
      congr 1
      omega
  have eK : iZ ((K0 : Int) - fz x) - efi x 2 = nI K0 := by
    rw [h.b2, iZ_sub, ← iZ_N]
    congr 1
    omega
  refine b148_0 (fun _ => ?_) (fun w => ?_)
  · rw [← hsv]
    have tl := c_length (d := d) (n := s) (σ := S) (by omega)
    rw [← hL] at tl
    refine b148_13 tl (b148_17 h (fun w => ?_) (fun w => ?_))
    · rw [est, eK, nI_1, h.b1, nI_ltI (by omega) (by omega)] at w
      rw [est, eK]
      -- kept
      obtain ⟨M, hM⟩ : ∃ M, M = rndQ dir b (N * 2 ^ v) (D * 2 ^ u * 2 ^ K0) := ⟨_, rfl⟩
      have hM2 : M ≤ 2 ^ (fb x + 1) := by
        have := (rndQ_le (dir := dir) (neg := b) (N := N * 2 ^ v) (D := D * 2 ^ u * 2 ^ K0)).1
        omega
      have hkept : Er (d + 1) 151 (0, ent 151 [.int (if b then 1 else 0), .long (lN s), .int (iZ ((K0 : Int) - fz x) - iZ z), .int (if N % D ≠ 0 then 1 else 0), .int (nI dir)], [], S) (.inl (some (.long (lN M))), S, 0) := by
        rw [iZ_sub]
        by_cases c : 0 < (K0 : Int) - fz x - z
        · obtain ⟨t, ht⟩ : ∃ t : Nat, (t : Int) = (K0 : Int) - fz x - z := ⟨((K0 : Int) - fz x - z).toNat, by omega⟩
          rw [← ht, iZ_N]
          have e : M = rndQ dir b N (D * 2 ^ t) := by
            rw [hM, Nat.mul_assoc, pow_split (c := t + v) (by omega), Nat.pow_add, ← Nat.mul_assoc, rndQ_scale (Nat.two_pow_pos v)]
          rw [e, hsv]
          exact f_drop hD (by omega) (by omega) (by rw [← hsv]; exact hs) hd
        · obtain ⟨t, ht⟩ : ∃ t : Nat, (K0 : Int) - fz x - z = -(t : Int) := ⟨(-((K0 : Int) - fz x - z)).toNat, by omega⟩
          have hr0 : N % D = 0 := by
            by_cases r : N % D = 0
            · exact r
            · have := hrest r
              omega
          have hND : N = s * D := by
            have := Nat.div_add_mod N D
            rw [hr0, Nat.add_zero, ← hsv, Nat.mul_comm] at this
            exact this.symm
          have e : M = s * 2 ^ t := by
            have e1 : N * 2 ^ v = s * 2 ^ t * (D * 2 ^ u * 2 ^ K0) := by
              rw [hND, Nat.mul_assoc (D), pow_split (c := u + K0) rfl, show v = t + (u + K0) by omega, Nat.pow_add 2 t]
              generalize 2 ^ t = p
              generalize 2 ^ (u + K0) = q
              ac_rfl
            rw [hM, e1]
            conv => lhs; rw [show D * 2 ^ u * 2 ^ K0 = 1 * (D * 2 ^ u * 2 ^ K0) by rw [Nat.one_mul]]
            rw [Nat.one_mul]
            conv => lhs; rhs; rw [← Nat.one_mul (D * 2 ^ u * 2 ^ K0)]
            rw [rndQ_scale (Nat.mul_pos hDu (Nat.two_pow_pos _)), rndQ_exact]
          have ht64 : t < 64 := by
            apply Nat.lt_of_not_le
            intro g
            have a1 : 2 ^ 64 ≤ 2 ^ t := Nat.pow_le_pow_right (by decide) g
            have a2 : 1 * 2 ^ t ≤ s * 2 ^ t := Nat.mul_le_mul_right _ hs0
            have a3 : 2 ^ (fb x + 1) ≤ 2 ^ 53 := Nat.pow_le_pow_right (by decide) (by omega)
            omega
          rw [ht, e]
          have tr := f_drop0 (d := d) (S := S) (s := s) (t := t) (dir := dir) (b := b) (r := false) ht64
          have er : (if N % D ≠ 0 then (1 : Int32) else 0) = 0 := if_neg (fun c => c hr0)
          rw [er]
          exact tr
      refine b148_69 hkept ?_
      have esz : (nI K0).toInt64 <<< ((efi x 0).toInt64 &&& 63) + lN M = lN (K0 * 2 ^ fb x + M) := by
        rw [nI_l (by omega), shl_N (fb x) h.b0 (by omega), lN_add]
      have hb53 : 2 ^ (fb x + 1) ≤ 2 ^ 53 := Nat.pow_le_pow_right (by decide) (by omega)
      have hKb : K0 * 2 ^ fb x ≤ fe x * 2 ^ fb x := Nat.mul_le_mul_right _ (by omega)
      have hrange : K0 * 2 ^ fb x + M < 2 ^ 63 := by
        have a1 : (K0 + 2) * 2 ^ fb x ≤ fe x * 2 ^ fb x := Nat.mul_le_mul_right _ (by omega)
        rw [Nat.add_mul] at a1
        rw [Nat.pow_succ] at hM2
        omega
      unfold enc sbit
      rw [if_neg (show ¬ fe x ≤ K0 + 1 by omega), ← hM]
      refine b148_83 h (fun y => ?_) (fun y => ?_)
      · rw [esz, h.inf, pk_lLT hrange hl] at y
        rw [if_neg (show ¬ fe x * 2 ^ fb x ≤ K0 * 2 ^ fb x + M by omega), esz]
        have t := f_signed (d := d) (x := x) (n := K0 * 2 ^ fb x + M) (S := S) (b := b) h (by omega)
        exact b148_120 (b148_122 h t b148_125)
      · rw [esz, h.inf, pk_lLT hrange hl] at y
        rw [if_pos (show fe x * 2 ^ fb x ≤ K0 * 2 ^ fb x + M by omega), esz]
        have t := f_signed (d := d) (x := x) (n := bey x dir b) (S := S) (b := b) h (bey_lt h)
        exact b148_110 h (f_beyond h hd) (b148_117 (b148_122 h t b148_125))
    · rw [est, eK, nI_1, h.b1, nI_ltI (by omega) (by omega)] at w
      rw [est, eK]
      unfold enc sbit
      rw [if_pos (show fe x ≤ K0 + 1 by omega)]
      have t := f_signed (d := d) (x := x) (n := bey x dir b) (S := S) (b := b) h (bey_lt h)
      exact b148_56 h (f_beyond h hd) (b148_65 h t b148_68)
  · rw [← hsv] at w
    have := (lN_inj (b := 0) (by omega) (by decide)).mp w
    omega
end
