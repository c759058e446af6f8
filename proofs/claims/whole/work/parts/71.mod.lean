/-! the reference: nearest, single, scaled -/
theorem FO.q {x : Nat} (h : FO x) : fz x ≤ 1074 ∧ fe x ≤ fz x + 973 := by rcases h with rfl | rfl <;> decide
theorem encV_lt {x A D dir : Nat} {b : Bool} (h : FO x) : encV x b dir A D < 2 ^ fs x := enc_lt h
theorem rndQ_b0 {b : Bool} {N D : Nat} : rndQ 0 b N D = rndQ 0 false N D := by
  unfold rndQ
  by_cases c : D < 2 * (N % D) ∨ (2 * (N % D) = D ∧ N / D % 2 = 1)
  · rw [if_pos (Or.inl ⟨rfl, c⟩), if_pos (Or.inl ⟨rfl, c⟩)]
  · rw [if_neg (fun z => z.elim (fun w => c w.2) (fun w => w.2.elim (fun v => absurd v.1 (by decide)) (fun v => absurd v.1 (by decide)))), if_neg (fun z => z.elim (fun w => c w.2) (fun w => w.2.elim (fun v => absurd v.1 (by decide)) (fun v => absurd v.1 (by decide))))]
theorem encV_b0 {x A D : Nat} {b : Bool} : encV x b 0 A D = encV x false 0 A D := by
  unfold encV
  rw [enc_R (by decide), enc_R (by decide), rndQ_b0]
  have : toInf 0 b = toInf 0 false := by cases b <;> rfl
  rw [this]
section
variable {d n a : Nat} {σ : St} {rv : Nat → Nat} {f : Nat → Int32} {sg : Nat → Int} {P Q : Nat → Nat} {S : St}
theorem z_isDirx0 {x1 x2 : Int32} (hD : Db n sg P Q) (hM : MD σ n sg P Q) (h : ¬ ∃ a, a < n ∧ x1 = nI a) : Er (d + 2) 124 (0, ent 124 [.ref 1, .int x1, .int x2], [], ZS σ rv f) (.inl (some (.int 0)), ZS σ rv (upi f 0 1), 0) := by
  refine b124_0 k1 (z_numx (zn (hM := hM)) hD.1 h) (b124_6 (fun z => absurd rfl z) (fun _ => b124_9 (b124_27 ⟨by decide, rfl, rfl⟩ k1 (fun _ => ?_) (fun z => ?_))))
  · rw [ZS_set (by decide)]
    exact b124_41 (b124_42 rfl)
  · rw [ZS_set (by decide), ZS_get (by decide), upi_s] at z
    exact absurd z (by decide)
theorem z_isDirx1 {x2 : Int32} (hD : Db n sg P Q) (hM : MD σ n sg P Q) (ha : a < n) (h : ¬ ∃ dir, dir < 4 ∧ x2 = nI dir) : Er (d + 2) 124 (0, ent 124 [.ref 1, .int (nI a), .int x2], [], ZS σ rv f) (.inl (some (.int 0)), ZS σ rv (upi f 0 2), 0) := by
  have bad : Er (d + 2) 124 (22, [some (.ref 1), some (.int (nI a)), some (.int x2)], [.ref 1], ZS σ rv f) (.inl (some (.int 0)), ZS σ rv (upi f 0 2), 0) := by
    refine b124_22 (b124_27 ⟨by decide, rfl, rfl⟩ k1 (fun _ => ?_) (fun z => ?_))
    · rw [ZS_set (by decide)]
      exact b124_41 (b124_42 rfl)
    · rw [ZS_set (by decide), ZS_get (by decide), upi_s] at z
      exact absurd z (by decide)
  refine b124_0 k1 (z_num (zn (hM := hM)) hD.1 ha) (b124_6 (fun _ => b124_13 (fun _ => bad) (fun z => b124_17 (fun w => ?_) (fun _ => bad))) (fun z => absurd z (by decide)))
  obtain ⟨j, hj, rfl⟩ := nI_of z
  have w2 := (nI_leI (b := 3) hj (by decide)).mp w
  exact absurd ⟨j, by omega, rfl⟩ h
theorem z_isDir {dir : Nat} (hD : Db n sg P Q) (hM : MD σ n sg P Q) (ha : a < n) (h : dir < 4) : Er (d + 2) 124 (0, ent 124 [.ref 1, .int (nI a), .int (nI dir)], [], ZS σ rv f) (.inl (some (.int 1)), ZS σ rv (upi f 0 0), 0) := by
  refine b124_0 k1 (z_num (zn (hM := hM)) hD.1 ha) (b124_6 (fun _ => b124_13 (fun z => absurd z (nI_pos (by omega))) (fun _ => b124_17 (fun _ => b124_26 (b124_27 ⟨by decide, rfl, rfl⟩ k1 (fun z => ?_) (fun _ => ?_))) (fun z => absurd (nI_le (b := 3) (by omega) (by decide)) z))) (fun z => absurd z (by decide)))
  · rw [ZS_set (by decide), ZS_get (by decide), upi_s] at z
    exact absurd rfl z
  · rw [ZS_set (by decide)]
    exact b124_37 (b124_42 rfl)
theorem z_nearestx0 {x1 x2 : Int32} (hD : Db n sg P Q) (hM : MD σ n sg P Q) (h : ¬ ∃ a, a < n ∧ x1 = nI a) : Ml (d + 3) 123 [.ref 1, .int x1, .int x2] σ (.long 0) σ 1 := by
  intro rv f hB
  exact ⟨rv, upi f 0 1, hB, upi_s _ _ _, b123_0 k1 (z_isDirx0 hD hM h) (b123_6 (fun z => absurd rfl z) (fun _ => b123_9))⟩
theorem z_nearestx1 {x2 : Int32} (hD : Db n sg P Q) (hM : MD σ n sg P Q) (ha : a < n) (h : ¬ ∃ dir, dir < 4 ∧ x2 = nI dir) : Ml (d + 3) 123 [.ref 1, .int (nI a), .int x2] σ (.long 0) σ 2 := by
  intro rv f hB
  exact ⟨rv, upi f 0 2, hB, upi_s _ _ _, b123_0 k1 (z_isDirx1 hD hM ha h) (b123_6 (fun z => absurd rfl z) (fun _ => b123_9))⟩
theorem z_singlex0 {x1 x2 : Int32} (hD : Db n sg P Q) (hM : MD σ n sg P Q) (h : ¬ ∃ a, a < n ∧ x1 = nI a) : Ml (d + 3) 128 [.ref 1, .int x1, .int x2] σ (.int 0) σ 1 := by
  intro rv f hB
  exact ⟨rv, upi f 0 1, hB, upi_s _ _ _, b128_0 k1 (z_isDirx0 hD hM h) (b128_6 (fun z => absurd rfl z) (fun _ => b128_9))⟩
theorem z_singlex1 {x2 : Int32} (hD : Db n sg P Q) (hM : MD σ n sg P Q) (ha : a < n) (h : ¬ ∃ dir, dir < 4 ∧ x2 = nI dir) : Ml (d + 3) 128 [.ref 1, .int (nI a), .int x2] σ (.int 0) σ 2 := by
  intro rv f hB
  exact ⟨rv, upi f 0 2, hB, upi_s _ _ _, b128_0 k1 (z_isDirx1 hD hM ha h) (b128_6 (fun z => absurd rfl z) (fun _ => b128_9))⟩
/-- the number of a is rounded -/
theorem z_rnd {x dir : Nat} (hx : FO x) (hD : Db n sg P Q) (ha : a < n) (hs : sg a ≠ 0) (hf : FM f x) (hB : BM rv) (hdir : dir < 4) : ∃ rv2, BM rv2 ∧ Er (d + 3) 126 (0, ent 126 [.ref 1, .int (iZ (sg a)), .int (nI dir)], [], ZS σ (up (up rv 2 (P a)) 3 (Q a)) f) (.inl (some (.long (lN (encV x (decide (sg a < 0)) dir (P a * 2 ^ fz x) (Q a))))), ZS σ rv2 f, 0) := by
  obtain ⟨pa, qa, qa0, _, sa⟩ := hD.2 a ha
  have C2 := BM_up (i := 3) (BM_up (i := 2) hB (Bp8_64 pa)) (Bp8_64 qa)
  obtain ⟨rv2, B2, hr⟩ := z_round (d := d) (σ := σ) (rv := up (up rv 2 (P a)) 3 (Q a)) (f := f) (x := x) (A0 := P a) (D0 := Q a) (dir := dir) (b := decide (sg a < 0)) hx hf C2 (by rw [up_n (by decide), up_s]) (up_s _ _ _) (by omega) qa0 (Nat.le_trans (b256.mpr pa) (by decide)) (Nat.le_trans (b256.mpr qa) (by decide)) hdir
  have e : (if (decide (sg a < 0)) = true then (-1 : Int) else 1) = sg a := by
    by_cases c : sg a < 0
    · rw [if_pos (decide_eq_true c)]; omega
    · rw [if_neg (by rw [decide_eq_true_eq]; exact c)]; omega
  rw [e] at hr
  exact ⟨rv2, B2, hr⟩
theorem z_nearest {dir : Nat} (hD : Db n sg P Q) (hM : MD σ n sg P Q) (ha : a < n) (hdir : dir < 4) : Ml (d + 4) 123 [.ref 1, .int (nI a), .int (nI dir)] σ (.long (lN (fmtV 46 (sg a) (P a) (Q a) dir))) σ 0 := by
  intro rv f hB
  have h60 := hD.1
  obtain ⟨pa, qa, qa0, _, sa⟩ := hD.2 a ha
  have start : ∀ {q : Rs}, Er (d + 4) 123 (11, [some (.ref 1), some (.int (nI a)), some (.int (nI dir))], [], ZS σ rv (upi f 0 0)) q → Er (d + 4) 123 (0, ent 123 [.ref 1, .int (nI a), .int (nI dir)], [], ZS σ rv f) q := fun hq =>
    b123_0 k1 (z_isDir hD hM ha hdir) (b123_6 (fun _ => hq) (fun z => absurd z (by decide)))
  unfold fmtV
  by_cases c : sg a = 0
  · rw [if_pos c]
    refine ⟨rv, upi f 0 0, hB, upi_s _ _ _, start (b123_11 k1 (by decide) (in42 h60 ha) (fun z => ?_) (fun _ => b123_20))⟩
    rw [z_sg hD hM ha, sgz hD ha] at z
    exact absurd c z
  · rw [if_neg c]
    obtain ⟨f2, hf2, e0, tf⟩ := z_form (d := d + 2) (σ := σ) (rv := rv) (f := upi f 0 0) (x := 46) O46
    obtain ⟨rv2, B2, hr⟩ := z_rnd (d := d) (σ := σ) (rv := rv) (f := f2) (x := 46) (dir := dir) O46 hD ha c hf2 hB hdir
    have hlt := encV_lt (x := 46) (A := P a * 2 ^ fz 46) (D := Q a) (dir := dir) (b := decide (sg a < 0)) O46
    obtain ⟨E, hE⟩ : ∃ E, E = encV 46 (decide (sg a < 0)) dir (P a * 2 ^ fz 46) (Q a) := ⟨_, rfl⟩
    rw [← hE] at hlt hr ⊢
    have C1 := BM_up (i := 2) hB (Bp8_64 pa)
    refine ⟨rv2, f2, B2, by rw [e0, upi_s], start (b123_11 k1 (by decide) (in42 h60 ha) (fun _ => b123_22 k1 tf (b123_27 k1 (z_loadP (r := 2) hD hM ha (by decide) hB) (b123_33 k1 (z_loadQ (r := 3) hD hM ha (by decide) C1) (b123_39 k1 (by decide) (in42 h60 ha) (by rw [z_sg hD hM ha]; exact hr) (b123_50 k1 (by decide) (in42 h60 ha) (fun z => ?_) (fun z => ?_)))))) (fun z => ?_))⟩
    · rw [z_sg hD hM ha, iz_ge0 (by omega) (by omega)] at z
      have es : sbit 46 (decide (sg a < 0)) = 0 := by
        unfold sbit
        rw [if_neg (by rw [decide_eq_true_eq]; omega)]
      rw [es]
      refine b123_65 ?_
      have t := b123_66 (d := d + 3) (x0 := 1) (x1 := nI a) (x2 := nI dir) (s0 := lN E) (s1 := 0) (σ := ZS σ rv2 f2)
      rw [Int64.or_zero] at t
      exact t
    · rw [z_sg hD hM ha, iz_ge0 (by omega) (by omega)] at z
      have es : sbit 46 (decide (sg a < 0)) = 2 ^ 63 := by
        unfold sbit
        rw [if_pos (decide_eq_true (by omega))]
        rfl
      rw [es]
      refine b123_59 ?_
      have t := b123_66 (d := d + 3) (x0 := 1) (x1 := nI a) (x2 := nI dir) (s0 := lN E) (s1 := -9223372036854775808) (σ := ZS σ rv2 f2)
      have o := or_N (a := 1) (b := E) (k := 63) hlt (by decide)
      have em : (-9223372036854775808 : Int64) = lN (1 * 2 ^ 63) := by decide
      rw [Int64.or_comm, em, o, Nat.add_comm (1 * 2 ^ 63) E, Nat.one_mul] at t
      exact t
    · rw [z_sg hD hM ha, sgz hD ha] at z
      exact absurd z c
theorem N_i (n : Nat) : (lN n).toInt32 = nI n := by rw [← lZ_N, lZ_i, iZ_N]
theorem z_single {dir : Nat} (hD : Db n sg P Q) (hM : MD σ n sg P Q) (ha : a < n) (hdir : dir < 4) : Ml (d + 4) 128 [.ref 1, .int (nI a), .int (nI dir)] σ (.int (nI (fmtV 47 (sg a) (P a) (Q a) dir))) σ 0 := by
  intro rv f hB
  have h60 := hD.1
  obtain ⟨pa, qa, qa0, _, sa⟩ := hD.2 a ha
  have start : ∀ {q : Rs}, Er (d + 4) 128 (11, [some (.ref 1), some (.int (nI a)), some (.int (nI dir))], [], ZS σ rv (upi f 0 0)) q → Er (d + 4) 128 (0, ent 128 [.ref 1, .int (nI a), .int (nI dir)], [], ZS σ rv f) q := fun hq =>
    b128_0 k1 (z_isDir hD hM ha hdir) (b128_6 (fun _ => hq) (fun z => absurd z (by decide)))
  unfold fmtV
  by_cases c : sg a = 0
  · rw [if_pos c]
    refine ⟨rv, upi f 0 0, hB, upi_s _ _ _, start (b128_11 k1 (by decide) (in42 h60 ha) (fun z => ?_) (fun _ => b128_20))⟩
    rw [z_sg hD hM ha, sgz hD ha] at z
    exact absurd c z
  · rw [if_neg c]
    obtain ⟨f2, hf2, e0, tf⟩ := z_form (d := d + 2) (σ := σ) (rv := rv) (f := upi f 0 0) (x := 47) O47
    obtain ⟨rv2, B2, hr⟩ := z_rnd (d := d) (σ := σ) (rv := rv) (f := f2) (x := 47) (dir := dir) O47 hD ha c hf2 hB hdir
    have hlt := encV_lt (x := 47) (A := P a * 2 ^ fz 47) (D := Q a) (dir := dir) (b := decide (sg a < 0)) O47
    obtain ⟨E, hE⟩ : ∃ E, E = encV 47 (decide (sg a < 0)) dir (P a * 2 ^ fz 47) (Q a) := ⟨_, rfl⟩
    rw [← hE] at hlt hr ⊢
    have C1 := BM_up (i := 2) hB (Bp8_64 pa)
    refine ⟨rv2, f2, B2, by rw [e0, upi_s], start (b128_11 k1 (by decide) (in42 h60 ha) (fun _ => b128_22 k1 tf (b128_27 k1 (z_loadP (r := 2) hD hM ha (by decide) hB) (b128_33 k1 (z_loadQ (r := 3) hD hM ha (by decide) C1) (b128_39 k1 (by decide) (in42 h60 ha) (by rw [z_sg hD hM ha]; exact hr) (b128_50 k1 (by decide) (in42 h60 ha) (fun z => ?_) (fun z => ?_)))))) (fun z => ?_))⟩
    · rw [z_sg hD hM ha, iz_ge0 (by omega) (by omega)] at z
      have es : sbit 47 (decide (sg a < 0)) = 0 := by
        unfold sbit
        rw [if_neg (by rw [decide_eq_true_eq]; omega)]
      rw [es]
      refine b128_65 ?_
      have t := b128_66 (d := d + 3) (x0 := 1) (x1 := nI a) (x2 := nI dir) (s0 := lN E) (s1 := 0) (σ := ZS σ rv2 f2)
      rw [Int64.or_zero, N_i] at t
      exact t
    · rw [z_sg hD hM ha, iz_ge0 (by omega) (by omega)] at z
      have es : sbit 47 (decide (sg a < 0)) = 2 ^ 31 := by
        unfold sbit
        rw [if_pos (decide_eq_true (by omega))]
        rfl
      rw [es]
      refine b128_59 ?_
      have t := b128_66 (d := d + 3) (x0 := 1) (x1 := nI a) (x2 := nI dir) (s0 := lN E) (s1 := 2147483648) (σ := ZS σ rv2 f2)
      have o := or_N (a := 1) (b := E) (k := 31) hlt (by decide)
      have em : (2147483648 : Int64) = lN (1 * 2 ^ 31) := by decide
      rw [Int64.or_comm, em, o, Nat.add_comm (1 * 2 ^ 31) E, Nat.one_mul, N_i] at t
      exact t
    · rw [z_sg hD hM ha, sgz hD ha] at z
      exact absurd z c
/-! a factor and its place -/
theorem ew_small {x m : Nat} {z : Int} (h : FO x) (hm : m < 2 ^ 60) (hz : z + fz x < -200) : ew x false m z = 0 := by
  obtain ⟨_, _, _, _, _, _, x7, x8, _, _⟩ := h.s
  have es : sbit x false = 0 := rfl
  unfold ew
  rw [es, Nat.add_zero]
  by_cases c : m = 0
  · rw [if_pos c]
  · rw [if_neg c]
    obtain ⟨k, hk⟩ : ∃ k, k = (-(z + fz x)).toNat := ⟨_, rfl⟩
    have e1 : (z + fz x).toNat = 0 := by omega
    rw [e1, ← hk, Nat.pow_zero, Nat.mul_one]
    have hk2 : 200 < k := by omega
    have hlt : 2 * m < 2 ^ k := by
      have h1 : 2 * m < 2 ^ 61 := by omega
      exact Nat.lt_of_lt_of_le h1 (Nat.pow_le_pow_right (by decide) (by omega))
    have hD : 0 < 2 ^ k := Nat.two_pow_pos _
    have q0 : m / 2 ^ k = 0 := Nat.div_eq_of_lt (by omega)
    have isk : isK x m (2 ^ k) 0 := by
      refine ⟨?_, Or.inl rfl⟩
      rw [Nat.pow_zero, Nat.mul_one, q0]
      exact Nat.two_pow_pos _
    rw [← encV_eq hD isk, enc_R (by decide)]
    have r0 : rndQ 0 false m (2 ^ k * 2 ^ 0) = 0 := by
      rw [Nat.pow_zero, Nat.mul_one, rndQ_no, q0]
      unfold upQ
      rw [Nat.mod_eq_of_lt (show m < 2 ^ k by omega), q0]
      rintro (⟨_, h1 | h1⟩ | ⟨_, h1 | h1⟩)
      · omega
      · omega
      · exact absurd h1.1 (by decide)
      · exact absurd h1.1 (by decide)
    rw [r0]
    unfold encR
    have xp : 0 < 2 ^ fb x := Nat.two_pow_pos _
    have fp : 0 < fe x * 2 ^ fb x := Nat.mul_pos (by omega) xp
    rw [if_neg (by omega), Nat.zero_mul]
theorem ew_big {x m : Nat} {z : Int} (h : FO x) (hm : 0 < m) (hz : (fe x : Int) + 50 < z + fz x) : ew x false m z = fe x * 2 ^ fb x := by
  obtain ⟨_, _, _, _, _, _, x7, x8, _, _⟩ := h.s
  have es : sbit x false = 0 := rfl
  unfold ew
  rw [es, Nat.add_zero, if_neg (by omega)]
  obtain ⟨k, hk⟩ : ∃ k, k = (z + fz x).toNat := ⟨_, rfl⟩
  have e1 : (-(z + fz x)).toNat = 0 := by omega
  rw [e1, ← hk, Nat.pow_zero]
  unfold encV
  rw [enc_R (by decide)]
  unfold encR
  have hb : k < bln (m * 2 ^ k / 1) := by
    rw [Nat.div_one]
    apply Nat.lt_of_not_le
    intro c
    have h1 := bln_le.mp c
    have h2 : 1 * 2 ^ k ≤ m * 2 ^ k := Nat.mul_le_mul_right _ hm
    omega
  rw [if_pos (Or.inl ?_)]
  · rfl
  · unfold KK
    omega
theorem z_scaled {x m : Nat} {z : Int} (h : FO x) (hm : m < 2 ^ 60) (hz1 : -9000 ≤ z) (hz2 : z ≤ 9000) (hB : BM rv) : ∃ rv2 f2, BM rv2 ∧ f2 0 = f 0 ∧ Er (d + 4) 131 (0, ent 131 [.ref 1, .long (lN m), .int (iZ z), .int (if x = 46 then 1 else 0)], [], ZS σ rv f) (.inl (some (.long (lN (ew x false m z)))), ZS σ rv2 f2, 0) := by
  obtain ⟨_, _, _, _, x5, _, x7, x8, x9, _⟩ := h.s
  obtain ⟨q1, q2⟩ := h.q
  have m64 : m < 2 ^ 64 := Nat.lt_trans hm (by decide)
  have l0 : lN m = 0 ↔ m = 0 := lN_inj (b := 0) m64 (by decide)
  by_cases c : m = 0
  · have e : ew x false m z = 0 := by
      unfold ew sbit
      rw [if_pos c, if_neg (by decide)]
    rw [e]
    exact ⟨rv, f, hB, rfl, b131_0 (fun w => absurd (l0.mpr c) w) (fun _ => b131_6)⟩
  obtain ⟨f2, hf2, e0, tf⟩ := z_form (d := d + 2) (σ := σ) (rv := rv) (f := f) (x := x) h
  have h13 : (1 : Nat) < Bp 63 := B63 (k := 1) (by decide) (by decide)
  have m63 : m < Bp 63 := B63 hm (by decide)
  have C1 := BM_up (i := 2) hB (B64 m63)
  have C2 := BM_up (i := 3) C1 (B64 h13)
  have w2 : up (up rv 2 m) 3 1 2 = m := by rw [up_n (by decide), up_s]
  have w3 : up (up rv 2 m) 3 1 3 = 1 := up_s _ _ _
  have g6 : gfi (ZS σ (up (up rv 2 m) 3 1) f2) 1 6 = nI (fb x + 1) := by rw [ZS_get (by decide)]; exact hf2.1
  have g7 : gfi (ZS σ (up (up rv 2 m) 3 1) f2) 1 7 = iZ (-(fz x : Int)) := by rw [ZS_get (by decide)]; exact hf2.2.1
  have g8 : gfi (ZS σ (up (up rv 2 m) 3 1) f2) 1 8 = iZ ((fe x : Int) - 2 - fz x) := by rw [ZS_get (by decide)]; exact hf2.2.2
  have start : ∀ {q : Rs}, Er (d + 4) 131 (26, [some (.ref 1), some (.long (lN m)), none, some (.int (iZ z)), some (.int (if x = 46 then 1 else 0))], [], ZS σ (up (up rv 2 m) 3 1) f2) q → Er (d + 4) 131 (0, ent 131 [.ref 1, .long (lN m), .int (iZ z), .int (if x = 46 then 1 else 0)], [], ZS σ rv f) q := fun hq =>
    b131_0 (fun _ => b131_8 k1 tf (b131_14 k1 (z_set (r := 2) (by decide) hB m64) (b131_20 k1 (z_set (r := 3) (n := 1) (by decide) C1 (by decide)) hq))) (fun w => absurd (l0.mp w) c)
  have le1 : iZ (-(fz x : Int)) - 200 ≤ iZ z ↔ -(fz x : Int) - 200 ≤ z := by
    rw [show (200 : Int32) = iZ 200 by decide, iZ_sub]
    exact iZ_le (by omega) (by omega) (by omega) (by omega)
  have le2 : iZ z ≤ iZ ((fe x : Int) - 2 - fz x) + 100 ↔ z ≤ (fe x : Int) - 2 - fz x + 100 := by
    rw [show (100 : Int32) = iZ 100 by decide, iZ_add]
    exact iZ_le (by omega) (by omega) (by omega) (by omega)
  by_cases c1 : -(fz x : Int) - 200 ≤ z
  · have start2 : ∀ {q : Rs}, Er (d + 4) 131 (40, [some (.ref 1), some (.long (lN m)), none, some (.int (iZ z)), some (.int (if x = 46 then 1 else 0))], [], ZS σ (up (up rv 2 m) 3 1) f2) q → Er (d + 4) 131 (0, ent 131 [.ref 1, .long (lN m), .int (iZ z), .int (if x = 46 then 1 else 0)], [], ZS σ rv f) q := fun hq =>
      start (b131_26 k1 (fun _ => hq) (fun w => absurd (by rw [g7, le1]; exact c1) w))
    by_cases c2 : z ≤ (fe x : Int) - 2 - fz x + 100
    · have zc : iZ z ≤ 0 ↔ z ≤ 0 := by
        rw [iZ0]
        exact iZ_le (by omega) (by omega) (by decide) (by decide)
      have es : sbit x false = 0 := rfl
      have bm : bln m ≤ 60 := bln_le.mpr hm
      by_cases g : z ≤ 0
      · obtain ⟨k, hk⟩ : ∃ k, k = (-z).toNat := ⟨_, rfl⟩
        have en : -iZ z = nI k := by
          rw [iZ_neg, ← iZ_N]
          congr 1
          omega
        have pk : 2 ^ k < Bp 63 := B63 (k := k + 1) (pw_lt (by omega)) (by omega)
        have tu := z_up (d := d + 2) (σ := σ) (rv := up (up rv 2 m) 3 1) (f := f2) (r := 3) (n := k) (by decide) C2 (by omega) (by rw [w3, Nat.one_mul]; exact B64 pk)
        rw [w3, Nat.one_mul, up_up] at tu
        have C3 := BM_up (i := 3) C1 (B64 pk)
        have bk : bln (2 ^ k) ≤ 1400 := bln_le.mpr (pw_lt (by omega))
        obtain ⟨rv2, B2, hr⟩ := z_round (d := d) (σ := σ) (rv := up (up rv 2 m) 3 (2 ^ k)) (f := f2) (x := x) (A0 := m) (D0 := 2 ^ k) (dir := 0) (b := false) h hf2 C3 (by rw [up_n (by decide), up_s]) (up_s _ _ _) (by omega) (Nat.two_pow_pos _) (by omega) bk (by decide)
        have ee : ew x false m z = encV x false 0 (m * 2 ^ fz x) (2 ^ k) := by
          unfold ew
          rw [if_neg c, es, Nat.add_zero]
          by_cases gg : 0 ≤ z + fz x
          · have e1 : (-(z + fz x)).toNat = 0 := by omega
            rw [e1, Nat.pow_zero]
            rw [← encV_scale (c := 2 ^ k) (by decide) (Nat.two_pow_pos _), Nat.mul_assoc, pow_split (show (z + fz x).toNat + k = fz x by omega), Nat.one_mul]
          · have e1 : (z + fz x).toNat = 0 := by omega
            rw [e1, Nat.pow_zero, Nat.mul_one]
            rw [← encV_scale (c := 2 ^ fz x) (Nat.two_pow_pos _) (Nat.two_pow_pos _), pow_split (show (-(z + fz x)).toNat + fz x = k by omega)]
        rw [ee]
        refine ⟨rv2, f2, B2, e0, start2 (b131_40 k1 (fun _ => b131_71 (fun _ => b131_80 (b131_81 (fun _ => b131_89 ?_) (fun w => absurd (zc.mpr g) w))) (fun w => absurd (zc.mpr g) w)) (fun w => absurd (by rw [g8, le2]; exact c2) w))⟩
        rw [en]
        exact b131_91 k1 tu (b131_94 k1 hr b131_100)
      · obtain ⟨k, hk⟩ : ∃ k, k = z.toNat := ⟨_, rfl⟩
        have en : iZ z = nI k := by
          rw [← iZ_N]
          congr 1
          omega
        have pk0 : m * 2 ^ k < 2 ^ (60 + k) := mp_lt hm (Nat.le_refl _)
        have pk : m * 2 ^ k < Bp 63 := B63 pk0 (by omega)
        have tu := z_up (d := d + 2) (σ := σ) (rv := up (up rv 2 m) 3 1) (f := f2) (r := 2) (n := k) (by decide) C2 (by omega) (by rw [w2]; exact B64 pk)
        rw [w2] at tu
        have C3 := BM_up (i := 2) C2 (B64 pk)
        have bk : bln (m * 2 ^ k) ≤ 1400 := Nat.le_trans (bln_le.mpr pk0) (by omega)
        obtain ⟨rv2, B2, hr⟩ := z_round (d := d) (σ := σ) (rv := up (up (up rv 2 m) 3 1) 2 (m * 2 ^ k)) (f := f2) (x := x) (A0 := m * 2 ^ k) (D0 := 1) (dir := 0) (b := false) h hf2 C3 (up_s _ _ _) (by rw [up_n (by decide), up_s]) (Nat.mul_pos (by omega) (Nat.two_pow_pos _)) (by decide) bk (by decide) (by decide)
        have ee : ew x false m z = encV x false 0 (m * 2 ^ k * 2 ^ fz x) 1 := by
          unfold ew
          rw [if_neg c, es, Nat.add_zero]
          have e1 : (-(z + fz x)).toNat = 0 := by omega
          rw [e1, Nat.pow_zero, Nat.mul_assoc, pow_split (show k + fz x = (z + fz x).toNat by omega)]
        rw [ee]
        refine ⟨rv2, f2, B2, e0, start2 (b131_40 k1 (fun _ => b131_71 (fun w => absurd (zc.mp w) g) (fun _ => b131_76 (b131_81 (fun w => absurd (zc.mp w) g) (fun _ => b131_85 ?_)))) (fun w => absurd (by rw [g8, le2]; exact c2) w))⟩
        rw [en]
        exact b131_91 k1 tu (b131_94 k1 hr b131_100)
    · rw [ew_big h (by omega) (by omega)]
      have en := z_encode (d := d + 2) (σ := σ) (rv := up (up rv 2 m) 3 1) (f := f2) (x := x) (K := fe x - 1) (R := 2 ^ fb x) (t := true) h hf2 (Nat.pow_le_pow_right (by decide) (by omega)) (by omega) (Or.inr (Nat.le_refl _))
      have er : encR x (fe x - 1) (2 ^ fb x) true = fe x * 2 ^ fb x := by
        unfold encR
        rw [if_pos (Or.inl (by omega))]
        rfl
      rw [er] at en
      refine ⟨_, f2, C2, e0, start2 (b131_40 k1 (fun w => ?_) (fun _ => b131_51 k1 ?_ b131_70))⟩
      · rw [g8, le2] at w
        exact absurd w c2
      · have e1 : (1 : Int64) <<< ((nI (fb x + 1) - 1).toInt64 &&& 63) = lN (2 ^ fb x) := by rw [nI_pred, one_shl (by omega)]
        have e2 : iZ ((fe x : Int) - 2 - fz x) + 1 = iZ (((fe x - 1 : Nat) : Int) - fz x) := by
          rw [show (1 : Int32) = iZ 1 by decide, iZ_add]
          congr 1
          omega
        rw [g6, g8, e1, e2]
        exact en
  · rw [ew_small h hm (by omega)]
    refine ⟨_, f2, C2, e0, start (b131_26 k1 (fun w => ?_) (fun _ => b131_38))⟩
    rw [g7, le1] at w
    exact absurd w c1
end
