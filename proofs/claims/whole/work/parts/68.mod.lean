/-! the reference: wrap, meets -/
theorem i0l : (0 : Int32).toInt64 = 0 := by decide
theorem low64 (V : Nat) : lN (dg V 0) ||| (lN (dg V 1) <<< ((32 : Int32).toInt64 &&& 63)) = lN (V % 2 ^ 64) := by
  rw [shl32, Int64.or_comm]
  have h := or_N (a := dg V 1) (b := dg V 0) (k := 32) (dg_lt V 0) (by
    have := dg_lt V 1
    simp only [Nat.reducePow]
    omega)
  have e : V % 2 ^ 64 = dg V 1 * 2 ^ 32 + dg V 0 := by
    unfold dg
    simp only [Nat.reduceMul, Nat.reducePow]
    omega
  rw [e]
  exact h
theorem lN_subN {a b : Nat} (h : b ≤ a) : lN a - lN b = lN (a - b) := by
  rw [← lZ_N, ← lZ_N, lZ_sub, ← lZ_N]
  congr 1
  omega
theorem lN_subZ (a b : Nat) : lN a - lN b = lZ ((a : Int) - (b : Int)) := by rw [← lZ_N, ← lZ_N, lZ_sub]
theorem lZ_64 (v : Int64) : lZ ((un v : Int) - 18446744073709551616) = v := by
  apply un_inj
  have h := un_lZ ((un v : Int) - 18446744073709551616)
  have h2 := un_lt v
  simp only [Nat.reducePow] at h2
  simp only [Int.reducePow] at h
  omega
section
variable {d n a b : Nat} {σ : St} {rv : Nat → Nat} {f : Nat → Int32} {sg : Nat → Int} {P Q : Nat → Nat} {S : St}
theorem z_wrapx0 {x1 x2 x3 : Int32} (hD : Db n sg P Q) (hM : MD σ n sg P Q) (h : ¬ ∃ a, a < n ∧ x1 = nI a) : Ml (d + 2) 119 [.ref 1, .int x1, .int x2, .int x3] σ (.long 0) σ 1 := by
  intro rv f hB
  have t := b119_13 (d := d + 1) (x0 := 1) (x1 := x1) (x2 := x2) (x3 := x3) (s0 := 0) (σ := ZS σ rv (upi f 0 1))
  rw [i0l] at t
  exact ⟨rv, upi f 0 1, hB, upi_s _ _ _, b119_0 k1 (z_numx (zn (hM := hM)) hD.1 h) (b119_5 (fun z => absurd rfl z) (fun _ => b119_8 k1 z_fails t))⟩
theorem z_wrapx1 {x2 x3 : Int32} (hD : Db n sg P Q) (hM : MD σ n sg P Q) (ha : a < n) (h : ¬ ∃ b, 1 ≤ b ∧ b ≤ 64 ∧ x2 = nI b) : Ml (d + 2) 119 [.ref 1, .int (nI a), .int x2, .int x3] σ (.long 0) σ 2 := by
  intro rv f hB
  have t := b119_31 (d := d + 1) (x0 := 1) (x1 := nI a) (x2 := x2) (x3 := x3) (s0 := 0) (σ := ZS σ rv (upi f 0 2))
  rw [i0l] at t
  refine ⟨rv, upi f 0 2, hB, upi_s _ _ _, b119_0 k1 (z_num (zn (hM := hM)) hD.1 ha) (b119_5 (fun _ => b119_15 (fun _ => b119_26 k1 z_fails t) (fun z => b119_20 (fun w => ?_) (fun _ => b119_26 k1 z_fails t))) (fun z => absurd z (by decide)))⟩
  by_cases c : x2 < 0
  · exact absurd (Int32.lt_trans c (by decide)) z
  · obtain ⟨j, hj, rfl⟩ := nI_of c
    have w2 := (nI_leI (b := 64) hj (by decide)).mp w
    have z2 : 1 ≤ j := Nat.le_of_not_lt (fun e => z (nI_lt (b := 1) e (by decide)))
    exact absurd ⟨j, z2, w2, rfl⟩ h
theorem z_wrap {x3 : Int32} (hD : Db n sg P Q) (hM : MD σ n sg P Q) (ha : a < n) (hb1 : 1 ≤ b) (hb2 : b ≤ 64) : Ml (d + 3) 119 [.ref 1, .int (nI a), .int (nI b), .int x3] σ (.long (wrapV (wrapW (sg a) (P a) (Q a)) b (decide (x3 ≠ 0)))) σ 0 := by
  intro rv f hB
  have h60 := hD.1
  obtain ⟨pa, qa, qa0, _⟩ := hD.2 a ha
  have C1 := BM_up (i := 2) hB (Bp8_64 pa)
  have C2 := BM_up (i := 3) C1 (Bp8_64 qa)
  have td := z_divM (d := d) (σ := σ) (rv := up (up rv 2 (P a)) 3 (Q a)) (f := upi f 0 0) (a := 2) (b := 3) (q := 4) (e := 5) (by decide) (by decide) (by decide) (by decide) (by decide) (by decide) (by decide) (by decide) (by decide) C2 (by rw [up_s]; exact qa0) (by rw [up_s]; exact b8_63 qa)
  rw [up_s, up_n (i := 3) (j := 2) (by decide), up_s] at td
  obtain ⟨V, hV⟩ : ∃ V, V = P a / Q a := ⟨_, rfl⟩
  obtain ⟨M, hMM⟩ : ∃ M, M = P a % Q a := ⟨_, rfl⟩
  rw [← hV, ← hMM] at td
  have C4 : BM (up (up (up (up rv 2 (P a)) 3 (Q a)) 4 V) 5 M) := BM_up (BM_up C2 (by rw [hV]; exact Nat.lt_of_le_of_lt (Nat.div_le_self _ _) (Bp8_64 pa))) (by rw [hMM]; exact Nat.lt_of_le_of_lt (Nat.mod_le _ _) (Bp8_64 pa))
  obtain ⟨r4, h4⟩ : ∃ r4, r4 = up (up (up (up rv 2 (P a)) 3 (Q a)) 4 V) 5 M := ⟨_, rfl⟩
  rw [← h4] at td C4
  have e4 : r4 4 = V := by rw [h4, up_n (by decide), up_s]
  have g0 := zrd (σ := σ) (f := upi f 0 0) (rv := r4) (r := 4) (k := 0) (by decide) (by decide)
  have g1 := zrd (σ := σ) (f := upi f 0 0) (rv := r4) (r := 4) (k := 1) (by decide) (by decide)
  have m0 := inM (r := 4) (k := 0) (by decide) (by decide)
  have m1 := inM (r := 4) (k := 1) (by decide) (by decide)
  have i0 : (64 : Int32) * nI 4 + nI 0 = 256 := by decide
  have i1 : (64 : Int32) * nI 4 + nI 1 = 257 := by decide
  rw [i0, e4] at g0
  rw [i1, e4] at g1
  rw [i0] at m0
  rw [i1] at m1
  have es : sfi (ZS σ rv f) 1 0 0 = ZS σ rv (upi f 0 0) := ZS_set (by decide)
  obtain ⟨v, hv⟩ : ∃ v : Int64, v = if sg a < 0 then -lN (P a / Q a % 2 ^ 64) else lN (P a / Q a % 2 ^ 64) := ⟨_, rfl⟩
  have hW : wrapW (sg a) (P a) (Q a) = un v := by rw [hv]; rfl
  rw [hW]
  refine ⟨r4, upi f 0 0, C4, upi_s _ _ _, b119_0 k1 (z_num (zn (hM := hM)) hD.1 ha) (b119_5 (fun _ => b119_15 (fun z => absurd ((nI_ltI (b := 1) (by omega) (by decide)).mp z) (by omega)) (fun _ => b119_20 (fun _ => b119_33 (σ2 := ZS σ (up rv 2 (P a)) (upi f 0 0)) ⟨by decide, rfl, rfl⟩ k1 (by rw [es]; exact z_loadP (r := 2) hD hM ha (by decide) hB) (b119_44 k1 (z_loadQ (r := 3) hD hM ha (by decide) C1) (b119_50 k1 td ?_))) (fun z => absurd (nI_le (b := 64) hb2 (by decide)) z))) (fun z => absurd z (by decide)))⟩
  have go : Er (d + 3) 119 (97, [some (.ref 1), some (.int (nI a)), some (.int (nI b)), some (.int x3), some (.long (lN (V % 2 ^ 64))), none, none, none], [.long v], ZS σ r4 (upi f 0 0)) (.inl (some (.long (wrapV (un v) b (decide (x3 ≠ 0))))), ZS σ r4 (upi f 0 0), 0) := by
    by_cases c64 : b = 64
    · subst c64
      have er : wrapV (un v) 64 (decide (x3 ≠ 0)) = v := by
        unfold wrapV
        have h1 : un v % 2 ^ 64 = un v := Nat.mod_eq_of_lt (un_lt v)
        rw [h1]
        split
        · exact lZ_64 v
        · exact lN_un v
      rw [er]
      exact b119_97 (fun z => absurd rfl z) (fun _ => b119_105)
    · have hb : b < 64 := by omega
      refine b119_97 (fun _ => ?_) (fun z => absurd ((nI_eq (b := 64) (by omega) (by decide)).mp z) c64)
      obtain ⟨W, eW⟩ : ∃ W, W = un v := ⟨_, rfl⟩
      have evW : v = lN W := by rw [eW, lN_un]
      rw [← eW, evW]
      have sh1 : (1 : Int64) <<< ((nI b).toInt64 &&& 63) = lN (2 ^ b) := by
        have := shl_N (n := 1) (s := nI b) b rfl hb
        rw [Nat.one_mul] at this
        exact this
      have pw := Nat.two_pow_pos b
      have msk : lN W &&& ((1 : Int64) <<< ((nI b).toInt64 &&& 63) - 1) = lN (W % 2 ^ b) := by
        rw [sh1]
        have : lN (2 ^ b) - 1 = lN (2 ^ b - 1) := lN_subN (b := 1) pw
        rw [this]
        exact and_N b rfl (by omega)
      have hlow : W % 2 ^ b < 2 ^ b := Nat.mod_lt _ pw
      obtain ⟨w, hw⟩ : ∃ w, w = W % 2 ^ b := ⟨_, rfl⟩
      rw [← hw] at msk hlow
      have w63 : w < 2 ^ 63 := Nat.lt_of_lt_of_le hlow (Nat.pow_le_pow_right (by decide) (by omega))
      have eb : 2 ^ b = 2 * 2 ^ (b - 1) := by
        rw [← Nat.pow_succ']
        congr 1
        omega
      have bit : ((lN w >>> ((nI b - 1).toInt64 &&& 63)) &&& 1 = (1 : Int64)) ↔ 2 ^ (b - 1) ≤ w := by
        have ep : nI b - 1 = nI (b - 1) := by
          have := nI_pred (b - 1)
          rw [show b - 1 + 1 = b by omega] at this
          exact this
        rw [ep, shr_N (s := nI (b - 1)) (b - 1) w63 rfl (by omega)]
        have h1 := and_N (n := w / 2 ^ (b - 1)) (m := 1) 1 rfl (by decide)
        have h2 : lN (w / 2 ^ (b - 1)) &&& (1 : Int64) = lN (w / 2 ^ (b - 1) % 2 ^ 1) := h1
        rw [h2]
        have h3 : lN (w / 2 ^ (b - 1) % 2 ^ 1) = (1 : Int64) ↔ w / 2 ^ (b - 1) % 2 ^ 1 = 1 := lN_inj (b := 1) (Nat.lt_of_lt_of_le (Nat.mod_lt _ (by decide)) (by decide)) (by decide)
        rw [h3]
        have pw1 := Nat.two_pow_pos (b - 1)
        obtain ⟨X, hX⟩ : ∃ X, X = 2 ^ (b - 1) := ⟨_, rfl⟩
        rw [← hX] at pw1 eb ⊢
        rw [eb] at hlow
        have h4 : w / X < 2 := (Nat.div_lt_iff_lt_mul pw1).mpr (by omega)
        have h5 : 1 ≤ w / X ↔ X ≤ w := by
          rw [Nat.le_div_iff_mul_le pw1, Nat.one_mul]
        obtain ⟨Y, hY⟩ : ∃ Y, Y = w / X := ⟨_, rfl⟩
        rw [← hY] at h4 h5 ⊢
        rw [← h5]
        clear h5 hX eb hlow pw1
        rw [show 2 ^ 1 = 2 from rfl]
        omega
      unfold wrapV
      rw [← hw]
      by_cases c3 : x3 = 0
      · rw [if_neg (by rw [c3]; intro z; exact absurd z.1 (by decide))]
        refine b119_108 (fun _ => ?_) (fun z => absurd c3 z)
        rw [msk]
        exact b119_144 b119_146
      · refine b119_108 (fun z => absurd z c3) (fun _ => ?_)
        rw [msk]
        have ed : decide (x3 ≠ 0) = true := decide_eq_true c3
        rw [ed]
        by_cases c5 : 2 ^ (b - 1) ≤ w
        · rw [if_pos ⟨rfl, c5⟩]
          refine b119_122 (fun z => absurd (bit.mpr c5) z) (fun _ => b119_135 ?_)
          rw [sh1, lN_subZ]
          exact b119_146
        · rw [if_neg (fun z => c5 z.2)]
          exact b119_122 (fun _ => b119_144 b119_146) (fun z => absurd (bit.mp z) c5)
  have sz : 0 ≤ iZ (sg a) ↔ 0 ≤ sg a := by
    have h1 := (hD.num ha).s
    exact iz_ge0 (by omega) (by omega)
  rw [← hV] at hv
  refine b119_58 k1 m0 m1 (by decide) (in42 h60 ha) (fun z => ?_) (fun z => ?_)
  · rw [z_sg hD hM ha, sz] at z
    rw [if_neg (by omega)] at hv
    rw [g0, g1, low64]
    refine b119_95 ?_
    rw [hv] at go ⊢
    exact go
  · rw [z_sg hD hM ha, sz] at z
    rw [if_pos (by omega)] at hv
    rw [g0, g1, low64]
    refine b119_89 ?_
    rw [← hv]
    exact go
theorem inf_ex (v : Nat) : fsz 46 v = fex 46 v * 4503599627370496 + v % 2 ^ 52 := by
  rw [fex46]
  show v % 9223372036854775808 = _
  simp only [Nat.reducePow]
  omega
theorem part0 (v : Nat) : lN (v % 2 ^ 52) = 0 ↔ v % 2 ^ 52 = 0 := by
  have h : v % 2 ^ 52 < 2 ^ 52 := Nat.mod_lt _ (by decide)
  exact lN_inj (b := 0) (Nat.lt_trans h (by decide)) (by decide)
theorem z_isNo {v : Nat} (hv : v < 2 ^ 64) : Er (d + 2) 121 (0, ent 121 [.long (lN v)], [], S) (.inl (some (.int (if infN < fsz 46 v then 1 else 0))), S, 0) := by
  have h := inf_ex v
  have hl : v % 2 ^ 52 < 4503599627370496 := Nat.mod_lt _ (by decide)
  have hx := fex46 v
  obtain ⟨m, hm⟩ : ∃ m, m = v % 2 ^ 52 := ⟨_, rfl⟩
  have p0 := part0 v
  rw [← hm] at h hl p0
  have tp := z_part (d := d) (v := v) (S := S)
  rw [← hm] at tp
  have hi : infN = 2047 * 4503599627370496 := rfl
  refine b121_0 (z_exp hv) (b121_4 (fun z => ?_) (fun z => b121_10 tp (b121_14 (fun w => ?_) (fun w => ?_))))
  · rw [if_neg (by rw [hi]; have := mt (ex_2047 v).mpr z; omega)]
    exact b121_23 (b121_24 rfl)
  · rw [ex_2047] at z
    rw [p0] at w
    rw [if_neg (by rw [hi]; omega)]
    exact b121_23 (b121_24 rfl)
  · rw [ex_2047] at z
    rw [p0] at w
    rw [if_pos (by rw [hi]; omega)]
    exact b121_19 (b121_24 rfl)
theorem z_isInf {v : Nat} (hv : v < 2 ^ 64) : Er (d + 2) 122 (0, ent 122 [.long (lN v)], [], S) (.inl (some (.int (if fsz 46 v = infN then 1 else 0))), S, 0) := by
  have h := inf_ex v
  have hl : v % 2 ^ 52 < 4503599627370496 := Nat.mod_lt _ (by decide)
  have hx := fex46 v
  obtain ⟨m, hm⟩ : ∃ m, m = v % 2 ^ 52 := ⟨_, rfl⟩
  have p0 := part0 v
  rw [← hm] at h hl p0
  have tp := z_part (d := d) (v := v) (S := S)
  rw [← hm] at tp
  have hi : infN = 2047 * 4503599627370496 := rfl
  refine b122_0 (z_exp hv) (b122_4 (fun z => ?_) (fun z => b122_10 tp (b122_14 (fun w => ?_) (fun w => ?_))))
  · rw [if_neg (by rw [hi]; have := mt (ex_2047 v).mpr z; omega)]
    exact b122_23 (b122_24 rfl)
  · rw [ex_2047] at z
    rw [p0] at w
    rw [if_neg (by rw [hi]; omega)]
    exact b122_23 (b122_24 rfl)
  · rw [ex_2047] at z
    rw [p0] at w
    rw [if_pos (by rw [hi]; omega)]
    exact b122_19 (b122_24 rfl)
theorem z_meetsx {x1 : Int32} {y : Int64} (hD : Db n sg P Q) (hM : MD σ n sg P Q) (h : ¬ ∃ a, a < n ∧ x1 = nI a) : Ml (d + 2) 120 [.ref 1, .int x1, .long y] σ (.int 0) σ 1 := by
  intro rv f hB
  exact ⟨rv, upi f 0 1, hB, upi_s _ _ _, b120_0 k1 (z_numx (zn (hM := hM)) hD.1 h) (b120_5 (fun z => absurd rfl z) (fun _ => b120_8 k1 z_fails b120_13))⟩
theorem z_meets {v : Nat} (hD : Db n sg P Q) (hM : MD σ n sg P Q) (ha : a < n) (hv : v < 2 ^ 64) : Ml (d + 3) 120 [.ref 1, .int (nI a), .long (lN v)] σ (.int (iZ (meetZ (sg a) (P a) (Q a) v))) σ 0 := by
  intro rv f hB
  have h60 := hD.1
  obtain ⟨pa, qa, qa0, _⟩ := hD.2 a ha
  have es : sfi (ZS σ rv f) 1 0 0 = ZS σ rv (upi f 0 0) := ZS_set (by decide)
  have start : ∀ {q : Rs}, Er (d + 3) 120 (23, [some (.ref 1), some (.int (nI a)), some (.long (lN v)), none, none, none], [.int (if infN < fsz 46 v then 1 else 0)], ZS σ rv (upi f 0 0)) q → Er (d + 3) 120 (0, ent 120 [.ref 1, .int (nI a), .long (lN v)], [], ZS σ rv f) q := fun hq =>
    b120_0 k1 (z_num (zn (hM := hM)) h60 ha) (b120_5 (fun _ => b120_14 (σ2 := ZS σ rv (upi f 0 0)) ⟨by decide, rfl, rfl⟩ (by rw [es]; exact z_isNo hv) hq) (fun z => absurd z (by decide)))
  unfold meetZ
  rw [inf46]
  by_cases c1 : infN < fsz 46 v
  · rw [if_pos c1]
    refine ⟨rv, upi f 0 0, hB, upi_s _ _ _, start ?_⟩
    rw [if_pos c1]
    exact b120_23 (fun z => absurd z (by decide)) (fun _ => b120_26)
  · rw [if_neg c1]
    have start2 : ∀ {q : Rs}, Er (d + 3) 120 (32, [some (.ref 1), some (.int (nI a)), some (.long (lN v)), none, none, none], [.int (if fsz 46 v = infN then 1 else 0)], ZS σ rv (upi f 0 0)) q → Er (d + 3) 120 (0, ent 120 [.ref 1, .int (nI a), .long (lN v)], [], ZS σ rv f) q := by
      intro q hq
      refine start ?_
      rw [if_neg c1]
      exact b120_23 (fun _ => b120_28 (z_isInf hv) hq) (fun z => absurd rfl z)
    by_cases c2 : fsz 46 v = infN
    · rw [if_pos c2]
      refine ⟨rv, upi f 0 0, hB, upi_s _ _ _, start2 ?_⟩
      rw [if_pos c2]
      refine b120_32 (fun z => absurd z (by decide)) (fun _ => b120_35 (z_signOf hv) ?_)
      have e : -iZ (sgZ v) = iZ (if fsg 46 v = 1 then 1 else -1) := by
        unfold sgZ
        rw [iZ_neg]
        congr 1
        split <;> rfl
      rw [← e]
      exact b120_39
    · rw [if_neg c2]
      obtain ⟨F, hF⟩ : ∃ F, F = fsi 46 v := ⟨_, rfl⟩
      have hf := fsi_53 (n := v)
      have f0 := fsi_0 (x := 46) (n := v) (Or.inl rfl)
      rw [← hF] at hf f0
      have f64 : F < 2 ^ 64 := Nat.lt_trans hf (by decide)
      have l0 : lN F = 0 ↔ F = 0 := lN_inj (b := 0) f64 (by decide)
      have tf : ∀ {d : Nat} {S : St}, Er (d + 2) 97 (0, ent 97 [.long (lN v)], [], S) (.inl (some (.long (lN F))), S, 0) := by
        intro d S
        have := z_fac (d := d) (S := S) hv
        rw [← hF] at this
        exact this
      obtain ⟨its, hits⟩ : ∃ its : Int, its = if fsz 46 v = 0 then 0 else if fsg 46 v = 1 then -1 else 1 := ⟨_, rfl⟩
      rw [← hits]
      have itr : its = 0 ∨ its = 1 ∨ its = -1 := by
        rw [hits]
        split
        · exact Or.inl rfl
        · split
          · exact Or.inr (Or.inr rfl)
          · exact Or.inr (Or.inl rfl)
      have start3 : ∀ {q : Rs}, Er (d + 3) 120 (58, [some (.ref 1), some (.int (nI a)), some (.long (lN v)), none, none, none], [.int (iZ its)], ZS σ rv (upi f 0 0)) q → Er (d + 3) 120 (0, ent 120 [.ref 1, .int (nI a), .long (lN v)], [], ZS σ rv f) q := by
        intro q hq
        refine start2 ?_
        rw [if_neg c2]
        refine b120_32 (fun _ => b120_41 tf ?_) (fun z => absurd rfl z)
        by_cases c3 : fsz 46 v = 0
        · rw [if_pos c3] at hits
          rw [hits] at hq
          exact b120_45 (fun z => absurd (l0.mpr (f0.mpr c3)) z) (fun _ => b120_50 hq)
        · rw [if_neg c3] at hits
          have t := z_signOf (d := d + 1) (v := v) (S := ZS σ rv (upi f 0 0)) hv
          unfold sgZ at t
          rw [← hits] at t
          exact b120_45 (fun _ => b120_54 t hq) (fun z => absurd (f0.mp (l0.mp z)) c3)
      have hs := (hD.num ha).s
      have sq : iZ (sg a) = iZ its ↔ sg a = its := iz_eq (by omega) (by omega) (by omega) (by omega)
      have sl : iZ its ≤ iZ (sg a) ↔ its ≤ sg a := iZ_le (by omega) (by omega) (by omega) (by omega)
      by_cases c4 : sg a = its
      · rw [if_pos c4]
        have hc : -1074 ≤ fsc 46 v ∧ fsc 46 v ≤ 972 := fsc_rng
        obtain ⟨e, he⟩ : ∃ e, e = fsc 46 v := ⟨_, rfl⟩
        rw [← he] at hc
        have C1 := BM_up (i := 2) hB (Bp8_64 pa)
        have C2 := BM_up (i := 3) C1 (Bp8_64 qa)
        have C3 := BM_up (i := 4) (v := F) C2 (B64 (B63 hf (by decide)))
        have qf : Q a * F < 2 ^ 309 := by
          have h1 : Q a * F < 2 ^ 256 * 2 ^ 53 := Nat.mul_lt_mul'' qa hf
          rw [← Nat.pow_add] at h1
          exact h1
        have qf63 : Q a * F < Bp 63 := B63 qf (by decide)
        have w3 : up (up (up rv 2 (P a)) 3 (Q a)) 4 F 3 = Q a := by rw [up_n (by decide), up_s]
        have w4 : up (up (up rv 2 (P a)) 3 (Q a)) 4 F 4 = F := up_s _ _ _
        have tt := z_times (d := d) (σ := σ) (rv := up (up (up rv 2 (P a)) 3 (Q a)) 4 F) (f := upi f 0 0) (a := 3) (b := 4) (c := 5) (by decide) (by decide) (by decide) (by decide) (by decide) C3 (by rw [w3, w4]; exact B64 qf63)
        rw [w3, w4] at tt
        have C4 := BM_up (i := 5) C3 (B64 qf63)
        obtain ⟨r4, h4⟩ : ∃ r4, r4 = up (up (up (up rv 2 (P a)) 3 (Q a)) 4 F) 5 (Q a * F) := ⟨_, rfl⟩
        rw [← h4] at tt C4
        have y2 : r4 2 = P a := by rw [h4, up_n (by decide), up_n (by decide), up_n (by decide), up_s]
        have y5 : r4 5 = Q a * F := by rw [h4, up_s]
        have tc := z_place (d := d) (S := ZS σ r4 (upi f 0 0)) hv
        rw [← he] at tc
        have zc : iZ e ≤ 0 ↔ e ≤ 0 := by
          rw [iZ0]
          exact iZ_le (by omega) (by omega) (by decide) (by decide)
        have mid : ∀ {q : Rs}, Er (d + 3) 120 (120, [some (.ref 1), some (.int (nI a)), some (.long (lN v)), none, some (.int (iZ its)), none], [.int (iZ e)], ZS σ r4 (upi f 0 0)) q → Er (d + 3) 120 (0, ent 120 [.ref 1, .int (nI a), .long (lN v)], [], ZS σ rv f) q := by
          intro q hq
          refine start3 (b120_58 k1 (by decide) (in42 h60 ha) (fun _ => ?_) (fun z => ?_))
          · exact b120_88 k1 (z_loadP (r := 2) hD hM ha (by decide) hB) (b120_94 k1 (z_loadQ (r := 3) hD hM ha (by decide) C1) (b120_100 tf (b120_106 k1 (z_set (r := 4) (by decide) C2 f64) (b120_109 k1 tt (b120_116 tc hq)))))
          · rw [z_sg hD hM ha, sq] at z
            exact absurd c4 z
        unfold meetS
        rw [← hF, ← he, c4]
        by_cases g : e ≤ 0
        · have e1 : e.toNat = 0 := by omega
          have en : -iZ e = nI (-e).toNat := by
            rw [iZ_neg, ← iZ_N]
            congr 1
            omega
          have p63 : P a * 2 ^ (-e).toNat < Bp 63 := mp_lt (k := 256) pa (by omega)
          have tu := z_up (d := d + 1) (σ := σ) (rv := r4) (f := upi f 0 0) (r := 2) (n := (-e).toNat) (by decide) C4 (by omega) (by rw [y2]; exact B64 p63)
          rw [y2] at tu
          have C5 := BM_up (i := 2) C4 (B64 p63)
          have tm := z_cmpM (d := d + 1) (σ := σ) (rv := up r4 2 (P a * 2 ^ (-e).toNat)) (f := upi f 0 0) (a := 2) (b := 5) (by decide) (by decide) C5
          rw [up_s, up_n (i := 2) (j := 5) (by decide), y5] at tm
          rw [e1, Nat.pow_zero, Nat.mul_one, Nat.mul_comm F (Q a), ← iZ_mul]
          refine ⟨_, upi f 0 0, C5, upi_s _ _ _, mid (b120_120 (fun _ => b120_132 (b120_133 (fun _ => b120_143 ?_) (fun z => absurd (zc.mpr g) z))) (fun z => absurd (zc.mpr g) z))⟩
          rw [en]
          exact b120_146 k1 tu (b120_149 k1 tm b120_157)
        · have e1 : (-e).toNat = 0 := by omega
          have en : iZ e = nI e.toNat := by
            rw [← iZ_N]
            congr 1
            omega
          have p63 : Q a * F * 2 ^ e.toNat < Bp 63 := mp_lt (k := 309) qf (by omega)
          have tu := z_up (d := d + 1) (σ := σ) (rv := r4) (f := upi f 0 0) (r := 5) (n := e.toNat) (by decide) C4 (by omega) (by rw [y5]; exact B64 p63)
          rw [y5] at tu
          have C5 := BM_up (i := 5) C4 (B64 p63)
          have tm := z_cmpM (d := d + 1) (σ := σ) (rv := up r4 5 (Q a * F * 2 ^ e.toNat)) (f := upi f 0 0) (a := 2) (b := 5) (by decide) (by decide) C5
          rw [up_s, up_n (i := 5) (j := 2) (by decide), y2] at tm
          rw [e1, Nat.pow_zero, Nat.mul_one, Nat.mul_comm F (Q a), ← iZ_mul]
          refine ⟨_, upi f 0 0, C5, upi_s _ _ _, mid (b120_120 (fun z => absurd (zc.mp z) g) (fun _ => b120_128 (b120_133 (fun z => absurd (zc.mp z) g) (fun _ => b120_138 ?_))))⟩
          rw [en]
          exact b120_146 k1 tu (b120_149 k1 tm b120_157)
      · rw [if_neg c4]
        unfold cz
        rw [if_neg c4]
        refine ⟨rv, upi f 0 0, hB, upi_s _ _ _, start3 (b120_58 k1 (by decide) (in42 h60 ha) (fun z => ?_) (fun _ => b120_71 k1 (by decide) (in42 h60 ha) (fun z => ?_) (fun z => ?_)))⟩
        · rw [z_sg hD hM ha, sq] at z
          exact absurd z c4
        · rw [z_sg hD hM ha, sl] at z
          rw [if_neg (by omega)]
          exact b120_86 b120_87
        · rw [z_sg hD hM ha, sl] at z
          rw [if_pos (by omega)]
          exact b120_82 b120_87
end
