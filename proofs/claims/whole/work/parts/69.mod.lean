/-! the reference: a format, its words -/
def FM (f : Nat → Int32) (x : Nat) : Prop := f 6 = nI (fb x + 1) ∧ f 7 = iZ (-(fz x : Int)) ∧ f 8 = iZ ((fe x : Int) - 2 - fz x)
def encR (x K R : Nat) (t : Bool) : Nat := if fe x ≤ K + 1 ∨ fe x * 2 ^ fb x ≤ K * 2 ^ fb x + R then (if t then fe x * 2 ^ fb x else fe x * 2 ^ fb x - 1) else K * 2 ^ fb x + R
def toInf (dir : Nat) (b : Bool) : Bool := decide (dir = 0 ∨ (dir = 1 ∧ b = false) ∨ (dir = 2 ∧ b = true))
theorem bey_t {x dir : Nat} {b : Bool} (hd : dir < 4) : bey x dir b = if toInf dir b then fe x * 2 ^ fb x else fe x * 2 ^ fb x - 1 := by
  unfold bey toInf
  rcases (show dir = 0 ∨ dir = 1 ∨ dir = 2 ∨ dir = 3 by omega) with rfl | rfl | rfl | rfl <;> cases b <;> rfl
theorem enc_R {x A D K dir : Nat} {b : Bool} (hd : dir < 4) : enc x b dir A D K = encR x K (rndQ dir b A (D * 2 ^ K)) (toInf dir b) := by
  unfold enc encR
  rw [bey_t hd]
  by_cases c : fe x ≤ K + 1
  · rw [if_pos c, if_pos (Or.inl c)]
  · rw [if_neg c]
    by_cases c2 : fe x * 2 ^ fb x ≤ K * 2 ^ fb x + rndQ dir b A (D * 2 ^ K)
    · rw [if_pos c2, if_pos (Or.inr c2)]
    · rw [if_neg c2, if_neg (fun z => z.elim c c2)]
section
variable {d n a b : Nat} {σ : St} {rv : Nat → Nat} {f : Nat → Int32} {sg : Nat → Int} {P Q : Nat → Nat} {S : St}
theorem z_form {x : Nat} (h : FO x) : ∃ f2 : Nat → Int32, FM f2 x ∧ f2 0 = f 0 ∧ Er (d + 1) 125 (0, ent 125 [.ref 1, .int (if x = 46 then 1 else 0)], [], ZS σ rv f) (.inl none, ZS σ rv f2, 0) := by
  have s6 : ∀ {g : Nat → Int32} {v : Int32}, sfi (ZS σ rv g) 1 6 v = ZS σ rv (upi g 6 v) := ZS_set (by decide)
  have s7 : ∀ {g : Nat → Int32} {v : Int32}, sfi (ZS σ rv g) 1 7 v = ZS σ rv (upi g 7 v) := ZS_set (by decide)
  have s8 : ∀ {g : Nat → Int32} {v : Int32}, sfi (ZS σ rv g) 1 8 v = ZS σ rv (upi g 8 v) := ZS_set (by decide)
  rcases h with rfl | rfl
  · rw [if_pos rfl]
    refine ⟨upi (upi (upi f 6 53) 7 (-1074)) 8 971, ⟨rfl, rfl, rfl⟩, rfl, b125_0 (fun z => absurd z (by decide)) (fun _ => b125_5 (b125_12 ⟨by decide, rfl, rfl⟩ (fun z => absurd z (by decide)) (fun _ => ?_)))⟩
    rw [s6]
    refine b125_20 (b125_29 ⟨by decide, rfl, rfl⟩ (fun z => absurd z (by decide)) (fun _ => ?_))
    rw [s7]
    refine b125_37 ?_
    have t := b125_45 (d := d) (x0 := 1) (x1 := 1) (s0 := 1) (s1 := 971) (σ := ZS σ rv (upi (upi f 6 53) 7 (-1074))) ⟨by decide, rfl, rfl⟩
    rw [s8] at t
    exact t
  · rw [if_neg (by decide)]
    refine ⟨upi (upi (upi f 6 24) 7 (-149)) 8 104, ⟨rfl, rfl, rfl⟩, rfl, b125_0 (fun _ => b125_10 (b125_12 ⟨by decide, rfl, rfl⟩ (fun _ => ?_) (fun z => absurd rfl z))) (fun z => absurd rfl z)⟩
    rw [s6]
    refine b125_26 (b125_29 ⟨by decide, rfl, rfl⟩ (fun _ => ?_) (fun z => absurd rfl z))
    rw [s7]
    refine b125_43 ?_
    have t := b125_45 (d := d) (x0 := 1) (x1 := 0) (s0 := 1) (s1 := 104) (σ := ZS σ rv (upi (upi f 6 24) 7 (-149))) ⟨by decide, rfl, rfl⟩
    rw [s8] at t
    exact t
theorem one_shl {k : Nat} (hk : k < 64) : (1 : Int64) <<< ((nI k).toInt64 &&& 63) = lN (2 ^ k) := by
  have := shl_N (n := 1) (s := nI k) k rfl hk
  rw [Nat.one_mul] at this
  exact this
theorem ltN {p q : Nat} (hp : p < 2 ^ 63) (hq : q < 2 ^ 63) : lN p < lN q ↔ p < q := by
  rw [l_lt, toInt_N hp, toInt_N hq]
  omega
theorem z_encode {x K R : Nat} {t : Bool} (h : FO x) (hf : FM f x) (hR : R ≤ 2 ^ (fb x + 1)) (hK : K < 5000) (hR0 : K = 0 ∨ 2 ^ fb x ≤ R) : Er (d + 1) 127 (0, ent 127 [.ref 1, .long (lN R), .int (iZ ((K : Int) - fz x)), .int (if t then 1 else 0)], [], ZS σ rv f) (.inl (some (.long (lN (encR x K R t)))), ZS σ rv f, 0) := by
  obtain ⟨x1, x2, x3, x4, x5, x6, x7, x8, x9, x10⟩ := h.s
  have hl := h.l
  have g6 : gfi (ZS σ rv f) 1 6 = nI (fb x + 1) := by rw [ZS_get (by decide)]; exact hf.1
  have g7 : gfi (ZS σ rv f) 1 7 = iZ (-(fz x : Int)) := by rw [ZS_get (by decide)]; exact hf.2.1
  have g8 : gfi (ZS σ rv f) 1 8 = iZ ((fe x : Int) - 2 - fz x) := by rw [ZS_get (by decide)]; exact hf.2.2
  obtain ⟨X, hX⟩ : ∃ X, X = 2 ^ fb x := ⟨_, rfl⟩
  have hXp : 0 < X := by rw [hX]; exact Nat.two_pow_pos _
  have hX2 : 2 ^ (fb x + 1) = 2 * X := by rw [hX, Nat.pow_succ]; omega
  have hX52 : X ≤ 4503599627370496 := by rw [hX]; exact (Nat.pow_le_pow_right (by decide) x7 : 2 ^ fb x ≤ 2 ^ 52)
  rw [hX2] at hR
  rw [← hX] at hR0
  have e61 : nI (fb x + 1) - 1 = nI (fb x) := nI_pred _
  have sh1 : (1 : Int64) <<< ((nI (fb x + 1)).toInt64 &&& 63) = lN (2 * X) := by rw [one_shl (by omega), hX2]
  have sh0 : (1 : Int64) <<< ((nI (fb x + 1) - 1).toInt64 &&& 63) = lN X := by rw [e61, one_shl (by omega), hX]
  have shi : (((iZ ((fe x : Int) - 2 - fz x) - iZ (-(fz x : Int))) + 2).toInt64) <<< ((nI (fb x + 1) - 1).toInt64 &&& 63) = lN (fe x * X) := by
    have e : iZ ((fe x : Int) - 2 - fz x) - iZ (-(fz x : Int)) + 2 = nI (fe x) := by
      rw [iZ_sub, show (2 : Int32) = iZ 2 by decide, iZ_add, ← iZ_N]
      congr 1
      omega
    rw [e, nI_l (by omega), e61, shl_N (s := nI (fb x)) (fb x) rfl (by omega), hX]
  have tail : ∀ {m K2 : Nat} {y3 : Int32}, m < 2 * X → K2 < 5001 → (K2 = 0 ∨ X ≤ m) → Er (d + 1) 127 (27, [some (.ref 1), some (.long (lN R)), none, some (.int y3), some (.int (if t then 1 else 0)), some (.long (lN m)), none, some (.int (iZ ((K2 : Int) - fz x))), none, none, none, none], [], ZS σ rv f) (.inl (some (.long (lN (if fe x ≤ K2 + 1 then (if t then fe x * X else fe x * X - 1) else K2 * X + m)))), ZS σ rv f, 0) := by
    intro m K2 y3 hm hK2 hm0
    have le : iZ ((K2 : Int) - fz x) ≤ iZ ((fe x : Int) - 2 - fz x) ↔ ¬ fe x ≤ K2 + 1 := by
      rw [iZ_le (by omega) (by omega) (by omega) (by omega)]
      omega
    refine b127_27 k1 (fun z => ?_) (fun z => ?_)
    · rw [g8, le] at z
      rw [if_neg z, g6, g7, g8, sh0, shi]
      have fm : fe x * X < 2 ^ 63 := by rw [hX]; exact hl
      refine b127_82 (fun w => ?_) (fun w => ?_)
      · rw [ltN (by omega) (by omega)] at w
        have h1 : (K2 + 1) * X ≤ fe x * X := Nat.mul_le_mul_right _ (by omega)
        have e : ((iZ ((K2 : Int) - fz x) - gfi (ZS σ rv f) 1 7 + 1).toInt64) <<< ((gfi (ZS σ rv f) 1 6 - 1).toInt64 &&& 63) ||| (lN m - lN X) = lN (K2 * X + m) := by
          have e2 : iZ ((K2 : Int) - fz x) - iZ (-(fz x : Int)) + 1 = nI (K2 + 1) := by
            rw [iZ_sub, show (1 : Int32) = iZ 1 by decide, iZ_add, ← iZ_N]
            congr 1
            omega
          rw [g6, g7, e2, nI_l (by omega), e61, shl_N (s := nI (fb x)) (fb x) rfl (by omega), lN_sub (by omega), hX]
          rw [← hX]
          have o := or_N (a := K2 + 1) (b := m - X) (k := fb x) (by rw [← hX]; omega) (by rw [← hX]; omega)
          rw [← hX] at o
          rw [o]
          congr 1
          rw [Nat.succ_mul]
          omega
        refine b127_95 k1 ?_
        rw [e]
        exact b127_118
      · rw [ltN (by omega) (by omega)] at w
        have : K2 = 0 := by omega
        rw [this, Nat.zero_mul, Nat.zero_add]
        exact b127_90 b127_118
    · rw [g8, le] at z
      rw [if_pos (Classical.not_not.mp z), g6, g7, g8, sh0, shi]
      cases t
      · refine b127_67 (fun _ => b127_77 ?_) (fun y => absurd rfl y)
        have : lN (fe x * X) - 1 = lN (fe x * X - 1) := lN_sub (b := 1) (Nat.mul_pos (by omega) hXp)
        rw [this]
        exact b127_81
      · exact b127_67 (fun y => absurd y (by decide)) (fun _ => b127_72 b127_81)
  unfold encR
  rw [← hX]
  by_cases c : R = 2 * X
  · have tl := tail (m := X) (K2 := K + 1) (y3 := iZ ((K : Int) - fz x)) (by omega) (by omega) (Or.inr (Nat.le_refl _))
    have ee : (if fe x ≤ K + 1 ∨ fe x * X ≤ K * X + R then (if t then fe x * X else fe x * X - 1) else K * X + R) = (if fe x ≤ K + 1 + 1 then (if t then fe x * X else fe x * X - 1) else (K + 1) * X + X) := by
      have e1 : (fe x ≤ K + 1 ∨ fe x * X ≤ K * X + R) ↔ fe x ≤ K + 1 + 1 := by
        constructor
        · intro z
          rcases z with z | z
          · omega
          · rw [c, ← Nat.add_mul] at z
            have := Nat.le_of_mul_le_mul_right z hXp
            omega
        · intro z
          right
          rw [c, ← Nat.add_mul]
          exact Nat.mul_le_mul_right _ (by omega)
      by_cases g : fe x ≤ K + 1 + 1
      · rw [if_pos g, if_pos (e1.mpr g)]
      · rw [if_neg g, if_neg (fun z => g (e1.mp z)), c, Nat.add_mul K 1 X]
        omega
    rw [ee]
    refine b127_0 k1 (fun z => ?_) (fun _ => b127_18 ?_)
    · rw [g6, sh1, c] at z
      exact absurd rfl z
    · have e1 : lN R >>> ((1 : Int32).toInt64 &&& 63) = lN X := by
        rw [shr_N (s := 1) 1 (by omega) rfl (by decide), c]
        congr 1
        omega
      have e2 : iZ ((K : Int) - fz x) + 1 = iZ (((K + 1 : Nat) : Int) - fz x) := by
        rw [show (1 : Int32) = iZ 1 by decide, iZ_add]
        congr 1
        omega
      rw [e1, e2]
      exact tl
  · have tl := tail (m := R) (K2 := K) (y3 := iZ ((K : Int) - fz x)) (by omega) (by omega) hR0
    have ee : (if fe x ≤ K + 1 ∨ fe x * X ≤ K * X + R then (if t then fe x * X else fe x * X - 1) else K * X + R) = (if fe x ≤ K + 1 then (if t then fe x * X else fe x * X - 1) else K * X + R) := by
      by_cases g : fe x ≤ K + 1
      · rw [if_pos g, if_pos (Or.inl g)]
      · rw [if_neg g, if_neg]
        intro z
        rcases z with z | z
        · exact g z
        · have h1 : (K + 2) * X ≤ fe x * X := Nat.mul_le_mul_right _ (by omega)
          rw [Nat.add_mul] at h1
          omega
    rw [ee]
    refine b127_0 k1 (fun _ => tl) (fun z => ?_)
    rw [g6, sh1, lN_inj (by omega) (by omega)] at z
    exact absurd z c
/-- one turn of the search -/
theorem z_it {x K A0 D0 : Nat} {x1 x2 : Int32} {x4 : Int64} (h : FO x) (hK : K < 5000) (hB : BM rv) (e2 : rv 2 = A0) (e3 : rv 3 = D0) (hD0 : 0 < D0) (s1 : fz x < K → K - fz x < 2000 ∧ D0 * 2 ^ (K - fz x) < Bp 63) (s2 : K ≤ fz x → A0 * 2 ^ (fz x - K) < Bp 63) (hA : A0 < Bp 63) (hDD : D0 < Bp 63) :
    ∃ rv2 A1 D1 c, BM rv2 ∧ rv2 2 = A0 ∧ rv2 3 = D0 ∧ rv2 6 = D1 ∧ rv2 7 = A1 / D1 ∧ rv2 8 = A1 % D1 ∧ 0 < D1 ∧ D1 < Bp 63 ∧ 0 < c ∧ A0 * 2 ^ fz x = A1 * c ∧ D0 * 2 ^ K = D1 * c ∧
      ∀ {q : Rs}, Er (d + 3) 126 (121, [some (.ref 1), some (.int x1), some (.int x2), some (.int (iZ ((K : Int) - fz x))), some (.long (lN (A1 / D1 % 2 ^ 64))), none, some (.int 1), none, none, none], [.int (nI (bln (A1 / D1)))], ZS σ rv2 f) q → Er (d + 3) 126 (40, [some (.ref 1), some (.int x1), some (.int x2), some (.int (iZ ((K : Int) - fz x))), some (.long x4), none, some (.int 1), none, none, none], [], ZS σ rv f) q := by
  obtain ⟨_, _, _, _, x5, _, _, _, _, x10⟩ := h.s
  have C1 : BM (up rv 5 A0) := BM_up hB (B64 hA)
  have C2 : BM (up (up rv 5 A0) 6 D0) := BM_up C1 (B64 hDD)
  have t1 := z_copy (d := d + 1) (σ := σ) (rv := rv) (f := f) (a := 2) (b := 5) (by decide) (by decide) (by decide) hB
  rw [e2] at t1
  have t2 := z_copy (d := d + 1) (σ := σ) (rv := up rv 5 A0) (f := f) (a := 3) (b := 6) (by decide) (by decide) (by decide) C1
  rw [up_n (i := 5) (j := 3) (by decide), e3] at t2
  have zc : iZ ((K : Int) - fz x) ≤ 0 ↔ K ≤ fz x := by
    rw [iZ0, iZ_le (by omega) (by omega) (by decide) (by decide)]
    omega
  -- behind the shift
  have rest : ∀ (A1 D1 : Nat) (r3 : Nat → Nat), BM r3 → r3 2 = A0 → r3 3 = D0 → r3 5 = A1 → r3 6 = D1 → 0 < D1 → D1 < Bp 63 → ∃ rv2, BM rv2 ∧ rv2 2 = A0 ∧ rv2 3 = D0 ∧ rv2 6 = D1 ∧ rv2 7 = A1 / D1 ∧ rv2 8 = A1 % D1 ∧ ∀ {q : Rs}, Er (d + 3) 126 (121, [some (.ref 1), some (.int x1), some (.int x2), some (.int (iZ ((K : Int) - fz x))), some (.long (lN (A1 / D1 % 2 ^ 64))), none, some (.int 1), none, none, none], [.int (nI (bln (A1 / D1)))], ZS σ rv2 f) q → Er (d + 3) 126 (82, [some (.ref 1), some (.int x1), some (.int x2), some (.int (iZ ((K : Int) - fz x))), some (.long x4), none, some (.int 1), none, none, none], [], ZS σ r3 f) q := by
    intro A1 D1 r3 B3 w2 w3 w5 w6 p1 l1
    have a64 : A1 < Bp 64 := by rw [← w5]; exact B3 5
    have td := z_divM (d := d) (σ := σ) (rv := r3) (f := f) (a := 5) (b := 6) (q := 7) (e := 8) (by decide) (by decide) (by decide) (by decide) (by decide) (by decide) (by decide) (by decide) (by decide) B3 (by rw [w6]; exact p1) (by rw [w6]; exact l1)
    rw [w5, w6] at td
    have B4 : BM (up (up r3 7 (A1 / D1)) 8 (A1 % D1)) := BM_up (BM_up B3 (Nat.lt_of_le_of_lt (Nat.div_le_self _ _) a64)) (Nat.lt_of_le_of_lt (Nat.mod_le _ _) a64)
    obtain ⟨r4, h4⟩ : ∃ r4, r4 = up (up r3 7 (A1 / D1)) 8 (A1 % D1) := ⟨_, rfl⟩
    rw [← h4] at td B4
    have y7 : r4 7 = A1 / D1 := by rw [h4, up_n (by decide), up_s]
    have g0 := zrd (σ := σ) (f := f) (rv := r4) (r := 7) (k := 0) (by decide) (by decide)
    have g1 := zrd (σ := σ) (f := f) (rv := r4) (r := 7) (k := 1) (by decide) (by decide)
    have m0 := inM (r := 7) (k := 0) (by decide) (by decide)
    have m1 := inM (r := 7) (k := 1) (by decide) (by decide)
    have i0 : (64 : Int32) * nI 7 + nI 0 = 448 := by decide
    have i1 : (64 : Int32) * nI 7 + nI 1 = 449 := by decide
    rw [i0, y7] at g0
    rw [i1, y7] at g1
    rw [i0] at m0
    rw [i1] at m1
    have tl := z_lenM (d := d + 1) (σ := σ) (rv := r4) (f := f) (r := 7) (by decide) B4
    rw [y7] at tl
    refine ⟨r4, B4, by rw [h4, up_n (by decide), up_n (by decide), w2], by rw [h4, up_n (by decide), up_n (by decide), w3], by rw [h4, up_n (by decide), up_n (by decide), w6], y7, by rw [h4, up_s], ?_⟩
    intro q hq
    refine b126_82 k1 td (b126_93 k1 m0 m1 tl ?_)
    rw [g0, g1, low64]
    exact hq
  have start : ∀ {q : Rs}, Er (d + 3) 126 (58, [some (.ref 1), some (.int x1), some (.int x2), some (.int (iZ ((K : Int) - fz x))), some (.long x4), none, some (.int 1), none, none, none], [], ZS σ (up (up rv 5 A0) 6 D0) f) q → Er (d + 3) 126 (40, [some (.ref 1), some (.int x1), some (.int x2), some (.int (iZ ((K : Int) - fz x))), some (.long x4), none, some (.int 1), none, none, none], [], ZS σ rv f) q := fun hq =>
    b126_40 (fun z => absurd z (by decide)) (fun _ => b126_45 k1 t1 (b126_51 k1 t2 hq))
  by_cases g : K ≤ fz x
  · have en : -iZ ((K : Int) - fz x) = nI (fz x - K) := by
      rw [iZ_neg, ← iZ_N]
      congr 1
      omega
    have s := s2 g
    have w5 : up (up rv 5 A0) 6 D0 5 = A0 := by rw [up_n (by decide), up_s]
    have tu := z_up (d := d + 1) (σ := σ) (rv := up (up rv 5 A0) 6 D0) (f := f) (r := 5) (n := fz x - K) (by decide) C2 (by omega) (by rw [w5]; exact B64 s)
    rw [w5] at tu
    have C3 := BM_up (i := 5) C2 (B64 s)
    obtain ⟨rv2, b2, v2, v3, v6, v7, v8, go⟩ := rest (A0 * 2 ^ (fz x - K)) D0 (up (up (up rv 5 A0) 6 D0) 5 (A0 * 2 ^ (fz x - K))) C3 (by rw [up_n (by decide), up_n (by decide), up_n (by decide), e2]) (by rw [up_n (by decide), up_n (by decide), up_n (by decide), e3]) (up_s _ _ _) (by rw [up_n (by decide), up_s]) hD0 hDD
    refine ⟨rv2, A0 * 2 ^ (fz x - K), D0, 2 ^ K, b2, v2, v3, v6, v7, v8, hD0, hDD, Nat.two_pow_pos _, ?_, rfl, ?_⟩
    · rw [Nat.mul_assoc, pow_split (show fz x - K + K = fz x by omega)]
    · intro q hq
      refine start (b126_58 (fun _ => b126_68 (b126_69 (fun _ => b126_77 ?_) (fun z => absurd (zc.mpr g) z))) (fun z => absurd (zc.mpr g) z))
      rw [en]
      exact b126_79 k1 tu (go hq)
  · have en : iZ ((K : Int) - fz x) = nI (K - fz x) := by
      rw [← iZ_N]
      congr 1
      omega
    obtain ⟨s0, s⟩ := s1 (by omega)
    have w6 : up (up rv 5 A0) 6 D0 6 = D0 := up_s _ _ _
    have tu := z_up (d := d + 1) (σ := σ) (rv := up (up rv 5 A0) 6 D0) (f := f) (r := 6) (n := K - fz x) (by decide) C2 (by omega) (by rw [w6]; exact B64 s)
    rw [w6, up_up] at tu
    have C3 := BM_up (i := 6) C1 (B64 s)
    obtain ⟨rv2, b2, v2, v3, v6, v7, v8, go⟩ := rest A0 (D0 * 2 ^ (K - fz x)) (up (up rv 5 A0) 6 (D0 * 2 ^ (K - fz x))) C3 (by rw [up_n (by decide), up_n (by decide), e2]) (by rw [up_n (by decide), up_n (by decide), e3]) (by rw [up_n (by decide), up_s]) (up_s _ _ _) (Nat.mul_pos hD0 (Nat.two_pow_pos _)) s
    refine ⟨rv2, A0, D0 * 2 ^ (K - fz x), 2 ^ fz x, b2, v2, v3, v6, v7, v8, Nat.mul_pos hD0 (Nat.two_pow_pos _), s, Nat.two_pow_pos _, rfl, ?_, ?_⟩
    · rw [Nat.mul_assoc, pow_split (show K - fz x + fz x = K by omega)]
    · intro q hq
      refine start (b126_58 (fun z => absurd (zc.mp z) g) (fun _ => b126_63 (b126_69 (fun z => absurd (zc.mp z) g) (fun _ => b126_73 ?_))))
      have go2 := go hq
      rw [en] at go2 ⊢
      exact b126_79 k1 tu go2
end
