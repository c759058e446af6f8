/-! the reference: power, reckon -/
section
variable {d n a b : Nat} {σ : St} {rv : Nat → Nat} {f : Nat → Int32} {sg : Nat → Int} {P Q : Nat → Nat} {S : St}
def powT (z : Int) (x : Int) (p q : Nat) : Int × Nat × Nat := (if x < 0 ∧ z.natAbs % 2 = 1 then -1 else 1, (if z < 0 then q else p) ^ z.natAbs, (if z < 0 then p else q) ^ z.natAbs)
theorem mk3_pow {z x : Int} {p q : Nat} (h : Nat.gcd p q = 1) : (mk3 (powT z x p q)).2 = (powT z x p q).2 := by
  unfold mk3 powT
  simp only
  have hc : Nat.gcd (if z < 0 then q else p) (if z < 0 then p else q) = 1 := by
    by_cases c : z < 0
    · rw [if_pos c, if_pos c, Nat.gcd_comm]; exact h
    · rw [if_neg c, if_neg c]; exact h
  have hp : Nat.gcd ((if z < 0 then q else p) ^ z.natAbs) ((if z < 0 then p else q) ^ z.natAbs) = 1 := Nat.Coprime.pow _ _ hc
  rw [hp, Nat.div_one, Nat.div_one]
theorem z_power {z : Int} (hD : Db n sg P Q) (hM : MD σ n sg P Q) (ha : a < n) (hz1 : -300 ≤ z) (hz2 : z ≤ 300) (h0 : z < 0 → 0 < P a) (hB : BM rv) :
    ∃ rv2 f2, BM rv2 ∧ f2 0 = maC n (mk3 (powT z (sg a) (P a) (Q a))) 4 ∧ Er (d + 4) 105 (0, ent 105 [.ref 1, .int (nI a), .int (iZ z)], [], ZS σ rv f) (.inl (some (.int (maV n (mk3 (powT z (sg a) (P a) (Q a)))))), ZS (maS σ n (mk3 (powT z (sg a) (P a) (Q a)))) rv2 f2, 0) := by
  have h60 := hD.1
  have hn := hM.1
  obtain ⟨pa, qa, q0, hg, _⟩ := hD.2 a ha
  obtain ⟨N, hN⟩ : ∃ N, N = z.natAbs := ⟨_, rfl⟩
  obtain ⟨s, hs⟩ : ∃ s : Int, s = if sg a < 0 ∧ N % 2 = 1 then -1 else 1 := ⟨_, rfl⟩
  have hT2 := mk3_pow (z := z) (x := sg a) hg
  have eT : powT z (sg a) (P a) (Q a) = (s, (if z < 0 then Q a else P a) ^ N, (if z < 0 then P a else Q a) ^ N) := by
    unfold powT
    rw [hs, hN]
  obtain ⟨T, hTT⟩ : ∃ T, T = mk3 (powT z (sg a) (P a) (Q a)) := ⟨_, rfl⟩
  rw [← hTT]
  have T1 : T.2.1 = (if z < 0 then Q a else P a) ^ N := by rw [hTT, hT2, eT]
  have T2 : T.2.2 = (if z < 0 then P a else Q a) ^ N := by rw [hTT, hT2, eT]
  have big : ∀ k, k ≤ N → (256 < bln (P a ^ k) ∨ 256 < bln (Q a ^ k)) → ¬ (n < 60 ∧ bln T.2.1 ≤ 256 ∧ bln T.2.2 ≤ 256) := by
    intro k hk h hh
    obtain ⟨_, u1, u2⟩ := hh
    rw [T1] at u1
    rw [T2] at u2
    by_cases c : z < 0
    · rw [if_pos c] at u1 u2
      have v1 := pow_bits u1 hk
      have v2 := pow_bits u2 hk
      omega
    · rw [if_neg c] at u1 u2
      have v1 := pow_bits u1 hk
      have v2 := pow_bits u2 hk
      omega
  have loop : ∀ m k (rvc : Nat → Nat), k + m = N → BM rvc → rvc 0 = P a ^ k → rvc 1 = Q a ^ k → rvc 2 = P a → rvc 3 = Q a → bln (P a ^ k) ≤ 256 → bln (Q a ^ k) ≤ 256 →
      ∃ rv2 f2, BM rv2 ∧ f2 0 = maC n T 4 ∧ Er (d + 4) 105 (61, [some (.ref 1), some (.int (nI a)), some (.int (iZ z)), some (.int (nI N)), some (.int (iZ s)), some (.int (nI k))], [], ZS σ rvc f) (.inl (some (.int (maV n T))), ZS (maS σ n T) rv2 f2, 0) := by
    intro m
    induction m with
    | zero =>
      intro k rvc hk hBc e0 e1 e2 e3 l0 l1
      rw [Nat.add_zero] at hk
      subst hk
      have p63 := b8_63 (b256.mp l0)
      have q63 := b8_63 (b256.mp l1)
      have zc : 0 ≤ iZ z ↔ 0 ≤ z := by
        rw [iZ0]
        exact iZ_le (by decide) (by decide) (by omega) (by omega)
      by_cases c : z < 0
      · have tw := z_swap (d := d + 2) (σ := σ) (rv := rvc) (f := f) (a := 0) (b := 1) (by decide) (by decide) (by decide) hBc
        rw [e0, e1] at tw
        have B1 : BM (up (up rvc 0 (Q a ^ k)) 1 (P a ^ k)) := BM_up (BM_up hBc (B64 q63)) (B64 p63)
        have r0 : up (up rvc 0 (Q a ^ k)) 1 (P a ^ k) 0 = Q a ^ k := by rw [up_n (by decide), up_s]
        have r1 : up (up rvc 0 (Q a ^ k)) 1 (P a ^ k) 1 = P a ^ k := up_s _ _ _
        obtain ⟨rv2, f2, b2, g2, hr⟩ := z_mk (d := d) (f := f) (σ := σ) (rv := up (up rvc 0 (Q a ^ k)) 1 (P a ^ k)) (s := s) (c := 4) (T := T) hn h60 B1 (by rw [r1]; exact Nat.pow_pos (h0 c)) (by rw [r0]; exact q63) (by rw [r1]; exact p63) (by rw [r0, r1, hTT, eT, if_pos c, if_pos c])
        exact ⟨rv2, f2, b2, g2, b105_61 (fun _ => b105_127 (fun y => absurd (zc.mp y) (by omega)) (fun _ => b105_131 k1 tw (b105_137 k1 hr b105_144))) (fun y => absurd (Int32.le_refl _) y)⟩
      · obtain ⟨rv2, f2, b2, g2, hr⟩ := z_mk (d := d) (f := f) (σ := σ) (rv := rvc) (s := s) (c := 4) (T := T) hn h60 hBc (by rw [e1]; exact Nat.pow_pos q0) (by rw [e0]; exact p63) (by rw [e1]; exact q63) (by rw [e0, e1, hTT, eT, if_neg c, if_neg c])
        exact ⟨rv2, f2, b2, g2, b105_61 (fun _ => b105_127 (fun _ => b105_137 k1 hr b105_144) (fun y => absurd (zc.mpr (by omega)) y)) (fun y => absurd (Int32.le_refl _) y)⟩
    | succ m ih =>
      intro k rvc hk hBc e0 e1 e2 e3 l0 l1
      have ep : P a ^ k * P a = P a ^ (k + 1) := (Nat.pow_succ ..).symm
      have eq : Q a ^ k * Q a = Q a ^ (k + 1) := (Nat.pow_succ ..).symm
      have mp := b16_64 (mul16 (b256.mp l0) pa)
      have mq := b16_64 (mul16 (b256.mp l1) qa)
      rw [ep] at mp
      rw [eq] at mq
      have t1 := z_times (d := d + 1) (σ := σ) (rv := rvc) (f := f) (a := 0) (b := 2) (c := 4) (by decide) (by decide) (by decide) (by decide) (by decide) hBc (by rw [e0, e2, ep]; exact mp)
      rw [e0, e2, ep] at t1
      have B1 := BM_up (i := 4) hBc mp
      have t2 := z_copy (d := d + 2) (σ := σ) (rv := up rvc 4 (P a ^ (k + 1))) (f := f) (a := 4) (b := 0) (by decide) (by decide) (by decide) B1
      rw [up_s] at t2
      have B2 := BM_up (i := 0) B1 mp
      obtain ⟨r2, h2⟩ : ∃ r2, r2 = up (up rvc 4 (P a ^ (k + 1))) 0 (P a ^ (k + 1)) := ⟨_, rfl⟩
      rw [← h2] at t2 B2
      have w0 : r2 0 = P a ^ (k + 1) := by rw [h2, up_s]
      have w1 : r2 1 = Q a ^ k := by rw [h2, up_n (by decide), up_n (by decide), e1]
      have w2 : r2 2 = P a := by rw [h2, up_n (by decide), up_n (by decide), e2]
      have w3 : r2 3 = Q a := by rw [h2, up_n (by decide), up_n (by decide), e3]
      have t3 := z_times (d := d + 1) (σ := σ) (rv := r2) (f := f) (a := 1) (b := 3) (c := 4) (by decide) (by decide) (by decide) (by decide) (by decide) B2 (by rw [w1, w3, eq]; exact mq)
      rw [w1, w3, eq] at t3
      have B3 := BM_up (i := 4) B2 mq
      have t4 := z_copy (d := d + 2) (σ := σ) (rv := up r2 4 (Q a ^ (k + 1))) (f := f) (a := 4) (b := 1) (by decide) (by decide) (by decide) B3
      rw [up_s] at t4
      have B4 := BM_up (i := 1) B3 mq
      obtain ⟨r4, h4⟩ : ∃ r4, r4 = up (up r2 4 (Q a ^ (k + 1))) 1 (Q a ^ (k + 1)) := ⟨_, rfl⟩
      rw [← h4] at t4 B4
      have y0 : r4 0 = P a ^ (k + 1) := by rw [h4, up_n (by decide), up_n (by decide), w0]
      have y1 : r4 1 = Q a ^ (k + 1) := by rw [h4, up_s]
      have y2 : r4 2 = P a := by rw [h4, up_n (by decide), up_n (by decide), w2]
      have y3 : r4 3 = Q a := by rw [h4, up_n (by decide), up_n (by decide), w3]
      have t5 := z_lenM (d := d + 2) (σ := σ) (rv := r4) (f := f) (r := 0) (by decide) B4
      have t6 := z_lenM (d := d + 2) (σ := σ) (rv := r4) (f := f) (r := 1) (by decide) B4
      rw [y0] at t5
      rw [y1] at t6
      have bP : bln (P a ^ (k + 1)) ≤ 2048 := bln_le.mpr mp
      have bQ : bln (Q a ^ (k + 1)) ≤ 2048 := bln_le.mpr mq
      have start : ∀ {q : Rs}, Er (d + 4) 105 (98, [some (.ref 1), some (.int (nI a)), some (.int (iZ z)), some (.int (nI N)), some (.int (iZ s)), some (.int (nI k))], [.int (nI (bln (P a ^ (k + 1))))], ZS σ r4 f) q → Er (d + 4) 105 (61, [some (.ref 1), some (.int (nI a)), some (.int (iZ z)), some (.int (nI N)), some (.int (iZ s)), some (.int (nI k))], [], ZS σ rvc f) q := fun h =>
        b105_61 (fun y => absurd y (nI_ge (by omega) (by omega))) (fun _ => b105_67 k1 t1 (b105_74 k1 t2 (b105_80 k1 t3 (b105_87 k1 t4 (b105_93 k1 t5 h)))))
      by_cases ok : bln (P a ^ (k + 1)) ≤ 256 ∧ bln (Q a ^ (k + 1)) ≤ 256
      · obtain ⟨rv2, f2, b2, g2, hr⟩ := ih (k + 1) r4 (by omega) B4 y0 y1 y2 y3 ok.1 ok.2
        refine ⟨rv2, f2, b2, g2, start (b105_98 (fun y => ?_) (fun _ => b105_104 k1 t6 (b105_109 (fun _ => b105_121 ?_) (fun y => ?_))))⟩
        · exact absurd ((nI_ltI (a := 256) (by decide) (by omega)).mp y) (by omega)
        · rw [nI_1]
          exact hr
        · exact absurd (nI_le (b := 256) ok.2 (by decide)) y
      · have hb := big (k + 1) (by omega) (by omega)
        obtain ⟨v1, v2, v3⟩ := ma_bad (c := 4) (σ := σ) hb
        rw [v1, v2, v3]
        have bad : Er (d + 4) 105 (115, [some (.ref 1), some (.int (nI a)), some (.int (iZ z)), some (.int (nI N)), some (.int (iZ s)), some (.int (nI k))], [], ZS σ r4 f) (.inl (some (.int 0)), ZS σ r4 (upi f 0 4), 0) := b105_115 k1 z_fails b105_120
        refine ⟨r4, upi f 0 4, B4, upi_s _ _ _, start (b105_98 (fun _ => bad) (fun y => b105_104 k1 t6 (b105_109 (fun w => ?_) (fun _ => bad))))⟩
        have a2 : bln (P a ^ (k + 1)) ≤ 256 := by
          apply Nat.le_of_not_lt
          intro e
          exact y (nI_lt (a := 256) e (by omega))
        have a3 : bln (Q a ^ (k + 1)) ≤ 256 := (nI_leI (b := 256) (by omega) (by decide)).mp w
        exact absurd ⟨a2, a3⟩ ok
  have h13 : (1 : Nat) < Bp 63 := B63 (k := 1) (by decide) (by decide)
  have B1 := BM_up (i := 2) hB (Bp8_64 pa)
  have B2 := BM_up (i := 3) B1 (Bp8_64 qa)
  have B3 := BM_up (i := 0) B2 (B64 h13)
  have B4 := BM_up (i := 1) B3 (B64 h13)
  have l1 : bln 1 ≤ 256 := by decide
  obtain ⟨rv2, f2, b2, g2, hr⟩ := loop N 0 (up (up (up (up rv 2 (P a)) 3 (Q a)) 0 1) 1 1) (by omega) B4 (by rw [up_n (by decide), up_s, Nat.pow_zero]) (by rw [up_s, Nat.pow_zero]) (by rw [up_n (by decide), up_n (by decide), up_n (by decide), up_s]) (by rw [up_n (by decide), up_n (by decide), up_s]) (by rw [Nat.pow_zero]; exact l1) (by rw [Nat.pow_zero]; exact l1)
  refine ⟨rv2, f2, b2, g2, ?_⟩
  have mid : Er (d + 4) 105 (32, [some (.ref 1), some (.int (nI a)), some (.int (iZ z)), some (.int (nI N)), none, none], [.int (iZ s)], ZS σ rv f) (.inl (some (.int (maV n T))), ZS (maS σ n T) rv2 f2, 0) :=
    b105_32 k1 (z_loadP (r := 2) hD hM ha (by decide) hB) (b105_40 k1 (z_loadQ (r := 3) hD hM ha (by decide) B1) (b105_46 k1 (z_set (r := 0) (n := 1) (by decide) B2 (by decide)) (b105_52 k1 (z_set (r := 1) (n := 1) (by decide) B3 (by decide)) (b105_58 hr))))
  have sz : 0 ≤ iZ (sg a) ↔ 0 ≤ sg a := by
    have h1 := (hD.num ha).s
    exact iz_ge0 (by omega) (by omega)
  have mid2 : Er (d + 4) 105 (10, [some (.ref 1), some (.int (nI a)), some (.int (iZ z)), none, none, none], [.int (nI N)], ZS σ rv f) (.inl (some (.int (maV n T))), ZS (maS σ n T) rv2 f2, 0) := by
    refine b105_10 k1 (by decide) (in42 h60 ha) (fun y => ?_) (fun y => ?_)
    · rw [z_sg hD hM ha, sz] at y
      rw [if_neg (by omega)] at hs
      rw [hs] at mid
      exact b105_31 mid
    · rw [z_sg hD hM ha, sz] at y
      have er : nI N - nI N / 2 * 2 = nI (N % 2) := pk_rem (d := 2) (by omega) (by decide) (by decide)
      refine b105_20 (by decide) (fun w => ?_) (fun w => ?_)
      · rw [er] at w
        have : N % 2 ≠ 1 := fun e => w (by rw [e]; rfl)
        rw [if_neg (by omega)] at hs
        rw [hs] at mid
        exact b105_31 mid
      · rw [er] at w
        have := (nI_eq (b := 1) (by omega) (by decide)).mp w
        rw [if_pos (by omega)] at hs
        rw [hs] at mid
        exact b105_27 mid
  have zc : 0 ≤ iZ z ↔ 0 ≤ z := by
    rw [iZ0]
    exact iZ_le (by decide) (by decide) (by omega) (by omega)
  refine b105_0 (fun y => ?_) (fun y => ?_)
  · rw [zc] at y
    have e : iZ z = nI N := by
      rw [← iZ_N]
      congr 1
      omega
    refine b105_9 ?_
    have m3 := mid2
    rw [e] at m3 ⊢
    exact m3
  · rw [zc] at y
    refine b105_4 ?_
    have e : -iZ z = nI N := by
      rw [iZ_neg, ← iZ_N]
      congr 1
      omega
    rw [e]
    exact mid2
theorem z_reckon {k : Nat} (hk : k ≤ 7) (hD : Db n sg P Q) (hM : MD σ n sg P Q) (ha : a < n) (hb : b < n) (hz : ¬ Dz k (sg a) (sg b)) (hB : BM rv) :
    ∃ rv2 f2, BM rv2 ∧ f2 0 = maC n (actT k sg P Q a b) 4 ∧ Er (d + 5) 111 (0, ent 111 [.ref 1, .int (nI k), .int (nI a), .int (nI b)], [], ZS σ rv f) (.inl (some (.int (maV n (actT k sg P Q a b)))), ZS (maS σ n (actT k sg P Q a b)) rv2 f2, 0) := by
  have h60 := hD.1
  have hn := hM.1
  obtain ⟨pa, qa, qa0, _⟩ := hD.2 a ha
  obtain ⟨pb, qb, qb0, _, sb⟩ := hD.2 b hb
  have hx := (hD.num ha).s
  have hy := (hD.num hb).s
  obtain ⟨x, ex⟩ : ∃ x, x = sg a := ⟨_, rfl⟩
  obtain ⟨y, ey⟩ : ∃ y, y = sg b := ⟨_, rfl⟩
  obtain ⟨L, eL⟩ : ∃ L, L = P a * Q b := ⟨_, rfl⟩
  obtain ⟨R, eR⟩ : ∃ R, R = P b * Q a := ⟨_, rfl⟩
  obtain ⟨q, eq⟩ : ∃ q, q = Q a * Q b := ⟨_, rfl⟩
  have hL : L < Bp 16 := by rw [eL]; exact mul16 pa qb
  have hR : R < Bp 16 := by rw [eR]; exact mul16 pb qa
  have hq : q < Bp 16 := by rw [eq]; exact mul16 qa qb
  have hq0 : 0 < q := by rw [eq]; exact Nat.mul_pos qa0 qb0
  have hR0 : 3 ≤ k → 0 < R := by
    intro h3
    have : y ≠ 0 := fun e => hz (Or.inl ⟨⟨h3, hk⟩, by rw [← ey]; exact e⟩)
    rw [eR]
    exact Nat.mul_pos (by omega) qa0
  obtain ⟨rv1, B1, e4, e5, e6, hl⟩ := z_level (d := d + 1) (f := f) hD hM ha hb hB
  rw [← eL] at e4
  rw [← eR] at e5
  rw [← eq] at e6
  have hT : actT k sg P Q a b = mk3 (actM k x (P a) (Q a) y (P b) (Q b)) := by rw [ex, ey]; rfl
  rw [hT]
  have g2 := z_sg (rv := rv1) (f := f) hD hM ha
  have g3 := z_sg (rv := rv1) (f := f) hD hM hb
  rw [← ex] at g2
  rw [← ey] at g3
  rw [← ex] at hx
  rw [← ey] at hy
  have kI : ∀ j, j < 2 ^ 31 → (nI k = nI j ↔ k = j) := fun j hj => nI_eq (by omega) hj
  have kL : ∀ j, j < 2 ^ 31 → (nI j ≤ nI k ↔ j ≤ k) := fun j hj => nI_leI hj (by omega)
  have L64 := b16_64 hL
  have R64 := b16_64 hR
  have q64 := b16_64 hq
  have h13 : (1 : Nat) < Bp 63 := B63 (k := 1) (by decide) (by decide)
  by_cases k2 : k < 2
  · -- a sum
    have hyy : (if k = 1 then -y else y) = 0 ∨ (if k = 1 then -y else y) = 1 ∨ (if k = 1 then -y else y) = -1 := by split <;> omega
    obtain ⟨yy, eyy⟩ : ∃ yy, yy = if k = 1 then -y else y := ⟨_, rfl⟩
    rw [← eyy] at hyy
    have eA : actM k x (P a) (Q a) y (P b) (Q b) = sumM x yy L R q := by
      rw [eL, eR, eq, eyy]
      rcases (show k = 0 ∨ k = 1 by omega) with rfl | rfl
      · rfl
      · rfl
    rw [eA]
    have tc := z_copy (d := d + 3) (σ := σ) (rv := rv1) (f := f) (a := 6) (b := 1) (by decide) (by decide) (by decide) B1
    rw [e6] at tc
    obtain ⟨rv2, f2, b2, w2, hr⟩ := z_sum (d := d) (σ := σ) (rv := up rv1 1 q) (f := f) (x := x) (y := yy) (L := L) (R := R) (q := q) hn h60 hx hyy (BM_up B1 q64) (by rw [up_n (by decide), e4]) (by rw [up_n (by decide), e5]) (up_s _ _ _) hL hR hq0 (b16_63 hq)
    refine ⟨rv2, f2, b2, w2, b111_0 k1 hl ?_⟩
    have go : Er (d + 5) 111 (35, [some (.ref 1), some (.int (nI k)), some (.int (nI a)), some (.int (nI b)), some (.int (iZ x)), none, none], [.int (iZ yy)], ZS σ rv1 f) (.inl (some (.int (maV n (mk3 (sumM x yy L R q))))), ZS (maS σ n (mk3 (sumM x yy L R q))) rv2 f2, 0) :=
      b111_35 (fun z => absurd ((kL 2 (by decide)).mp z) (by omega)) (fun _ => b111_42 k1 tc (b111_49 k1 hr b111_57))
    refine b111_6 k1 (by decide) (in42 h60 ha) (fun z => ?_) (fun z => ?_)
    · have c : k ≠ 1 := fun e => z ((kI 1 (by decide)).mpr e)
      rw [if_neg c] at eyy
      rw [g2]
      refine b111_29 k1 (by decide) (in42 h60 hb) ?_
      rw [g3, ← eyy]
      exact go
    · have c : k = 1 := (kI 1 (by decide)).mp z
      rw [if_pos c] at eyy
      rw [g2]
      refine b111_19 k1 (by decide) (in42 h60 hb) ?_
      rw [g3, iZ_neg, ← eyy]
      exact go
  · have start : ∀ {r : Rs}, Er (d + 5) 111 (58, [some (.ref 1), some (.int (nI k)), some (.int (nI a)), some (.int (nI b)), some (.int (iZ x)), some (.int (iZ y)), none], [], ZS σ rv1 f) r → Er (d + 5) 111 (0, ent 111 [.ref 1, .int (nI k), .int (nI a), .int (nI b)], [], ZS σ rv f) r := by
      intro r h
      refine b111_0 k1 hl (b111_6 k1 (by decide) (in42 h60 ha) (fun _ => ?_) (fun z => absurd ((kI 1 (by decide)).mp z) (by omega)))
      rw [g2]
      refine b111_29 k1 (by decide) (in42 h60 hb) ?_
      rw [g3]
      exact b111_35 (fun _ => h) (fun z => absurd ((kL 2 (by decide)).mpr (by omega)) z)
    by_cases k3 : k = 2
    · subst k3
      have eA : actM 2 x (P a) (Q a) y (P b) (Q b) = (x * y, P a * P b, q) := by rw [eq]; rfl
      rw [eA]
      have m0 := mul16 pa pb
      have C1 := BM_up (i := 2) B1 (Bp8_64 pa)
      have C2 := BM_up (i := 3) C1 (Bp8_64 pb)
      have t3 := z_times (d := d + 2) (σ := σ) (rv := up (up rv1 2 (P a)) 3 (P b)) (f := f) (a := 2) (b := 3) (c := 0) (by decide) (by decide) (by decide) (by decide) (by decide) C2 (by rw [up_s, up_n (by decide), up_s]; exact b16_64 m0)
      rw [up_s, up_n (i := 3) (j := 2) (by decide), up_s] at t3
      have C3 := BM_up (i := 0) C2 (b16_64 m0)
      have t4 := z_copy (d := d + 3) (σ := σ) (rv := up (up (up rv1 2 (P a)) 3 (P b)) 0 (P a * P b)) (f := f) (a := 6) (b := 1) (by decide) (by decide) (by decide) C3
      have r6 : up (up (up rv1 2 (P a)) 3 (P b)) 0 (P a * P b) 6 = q := by rw [up_n (by decide), up_n (by decide), up_n (by decide), e6]
      rw [r6] at t4
      have C4 := BM_up (i := 1) C3 q64
      obtain ⟨r4, h4⟩ : ∃ r4, r4 = up (up (up (up rv1 2 (P a)) 3 (P b)) 0 (P a * P b)) 1 q := ⟨_, rfl⟩
      rw [← h4] at t4 C4
      have y0 : r4 0 = P a * P b := by rw [h4, up_n (by decide), up_s]
      have y1 : r4 1 = q := by rw [h4, up_s]
      obtain ⟨rv2, f2, b2, w2, hr⟩ := z_mk (d := d + 1) (f := f) (σ := σ) (rv := r4) (s := x * y) (c := 4) (T := mk3 (x * y, P a * P b, q)) hn h60 C4 (by rw [y1]; exact hq0) (by rw [y0]; exact b16_63 m0) (by rw [y1]; exact b16_63 hq) (by rw [y0, y1])
      refine ⟨rv2, f2, b2, w2, start (b111_58 (fun z => absurd rfl z) (fun _ => b111_63 k1 (z_loadP (r := 2) hD hM ha (by decide) B1) (b111_69 k1 (z_loadP (r := 3) hD hM hb (by decide) C1) (b111_75 k1 t3 (b111_82 k1 t4 (b111_89 k1 ?_ b111_99))))))⟩
      rw [iZ_mul]
      exact hr
    · by_cases k4 : k = 3
      · subst k4
        have eA : actM 3 x (P a) (Q a) y (P b) (Q b) = (x * y, L, R) := by rw [eL, eR]; rfl
        rw [eA]
        have t1 := z_copy (d := d + 3) (σ := σ) (rv := rv1) (f := f) (a := 4) (b := 0) (by decide) (by decide) (by decide) B1
        rw [e4] at t1
        have C1 := BM_up (i := 0) B1 L64
        have t2 := z_copy (d := d + 3) (σ := σ) (rv := up rv1 0 L) (f := f) (a := 5) (b := 1) (by decide) (by decide) (by decide) C1
        rw [up_n (i := 0) (j := 5) (by decide), e5] at t2
        have C2 := BM_up (i := 1) C1 R64
        have y0 : up (up rv1 0 L) 1 R 0 = L := by rw [up_n (by decide), up_s]
        have y1 : up (up rv1 0 L) 1 R 1 = R := up_s _ _ _
        obtain ⟨rv2, f2, b2, w2, hr⟩ := z_mk (d := d + 1) (f := f) (σ := σ) (rv := up (up rv1 0 L) 1 R) (s := x * y) (c := 4) (T := mk3 (x * y, L, R)) hn h60 C2 (by rw [y1]; exact hR0 (by decide)) (by rw [y0]; exact b16_63 hL) (by rw [y1]; exact b16_63 hR) (by rw [y0, y1])
        refine ⟨rv2, f2, b2, w2, start (b111_58 (fun _ => b111_100 (fun z => absurd rfl z) (fun _ => b111_105 k1 t1 (b111_111 k1 t2 (b111_117 k1 ?_ b111_127)))) (fun z => absurd z (by decide)))⟩
        rw [iZ_mul]
        exact hr
      · -- quotients and rests
        have Rp := hR0 (by omega)
        have td := z_divM (d := d + 2) (σ := σ) (rv := rv1) (f := f) (a := 4) (b := 5) (q := 7) (e := 8) (by decide) (by decide) (by decide) (by decide) (by decide) (by decide) (by decide) (by decide) (by decide) B1 (by rw [e5]; exact Rp) (by rw [e5]; exact b16_63 hR)
        rw [e4, e5] at td
        obtain ⟨D, hDD⟩ : ∃ D, D = L / R := ⟨_, rfl⟩
        obtain ⟨M, hMM⟩ : ∃ M, M = L % R := ⟨_, rfl⟩
        rw [← hDD, ← hMM] at td
        have hD16 : D < Bp 16 := by rw [hDD]; exact Nat.lt_of_le_of_lt (Nat.div_le_self _ _) hL
        have hMR : M < R := by rw [hMM]; exact Nat.mod_lt _ Rp
        have hM16 : M < Bp 16 := by omega
        have C1 := BM_up (i := 8) (BM_up (i := 7) B1 (b16_64 hD16)) (b16_64 hM16)
        obtain ⟨r8, h8⟩ : ∃ r8, r8 = up (up rv1 7 D) 8 M := ⟨_, rfl⟩
        rw [← h8] at td C1
        have y5 : r8 5 = R := by rw [h8, up_n (by decide), up_n (by decide), e5]
        have y6 : r8 6 = q := by rw [h8, up_n (by decide), up_n (by decide), e6]
        have y7 : r8 7 = D := by rw [h8, up_n (by decide), up_s]
        have y8 : r8 8 = M := by rw [h8, up_s]
        have tz := z_isZ (d := d + 3) (σ := σ) (rv := r8) (f := f) (r := 8) (by decide) C1
        rw [y8] at tz
        obtain ⟨dn, hdn⟩ : ∃ dn : Int32, dn = if k < 6 ∧ x * y < 0 ∧ M ≠ 0 then 1 else 0 := ⟨_, rfl⟩
        have hxy := s3 hx hy
        have zxy : 0 ≤ iZ (x * y) ↔ 0 ≤ x * y := iz_ge0 (by omega) (by omega)
        have to166 : ∀ {r : Rs}, Er (d + 5) 111 (166, [some (.ref 1), some (.int (nI k)), some (.int (nI a)), some (.int (nI b)), some (.int (iZ x)), some (.int (iZ y)), none], [.int dn], ZS σ r8 f) r → Er (d + 5) 111 (0, ent 111 [.ref 1, .int (nI k), .int (nI a), .int (nI b)], [], ZS σ rv f) r := by
          intro r h
          refine start (b111_58 (fun _ => b111_100 (fun _ => b111_128 k1 td ?_) (fun z => absurd ((kI 3 (by decide)).mp z) k4)) (fun z => absurd ((kI 2 (by decide)).mp z) k3))
          by_cases c1 : k < 6
          · refine b111_138 (fun z => absurd ((kL 6 (by decide)).mp z) (by omega)) (fun _ => ?_)
            by_cases c2 : x * y < 0
            · refine b111_144 (fun z => ?_) (fun _ => b111_152 k1 tz ?_)
              · rw [iZ_mul, zxy] at z
                omega
              · by_cases c3 : M = 0
                · rw [if_neg (fun z => z.2.2 c3)] at hdn
                  rw [if_pos c3]
                  rw [hdn] at h
                  exact b111_158 (fun _ => b111_165 h) (fun z => absurd z (by decide))
                · rw [if_pos ⟨c1, c2, c3⟩] at hdn
                  rw [if_neg c3]
                  rw [hdn] at h
                  exact b111_158 (fun z => absurd rfl z) (fun _ => b111_161 h)
            · rw [if_neg (fun z => c2 z.2.1)] at hdn
              rw [hdn] at h
              refine b111_144 (fun _ => b111_165 h) (fun z => ?_)
              rw [iZ_mul, zxy] at z
              omega
          · rw [if_neg (fun z => c1 z.1)] at hdn
            rw [hdn] at h
            exact b111_138 (fun _ => b111_165 h) (fun z => absurd ((kL 6 (by decide)).mpr (by omega)) z)
        by_cases c46 : k = 4 ∨ k = 6
        · -- a quotient
          obtain ⟨V, hV⟩ : ∃ V, V = if k < 6 ∧ x * y < 0 ∧ M ≠ 0 then D + 1 else D := ⟨_, rfl⟩
          have hV63 : V < Bp 63 := by
            have := Bp_le (a := 17) (b := 63) (by decide)
            have h17 : Bp 17 = Bp 16 * 4294967296 := Bp_succ 16
            rw [hV]
            split <;> omega
          have eA : actM k x (P a) (Q a) y (P b) (Q b) = (x * y, V, 1) := by
            rw [hV, hDD, hMM, eL, eR]
            rcases c46 with rfl | rfl
            · show (x * y, quoT true (x * y) (P a * Q b / (P b * Q a)) (P a * Q b % (P b * Q a)), 1) = _
              unfold quoT
              by_cases c : x * y < 0 ∧ P a * Q b % (P b * Q a) ≠ 0
              · rw [if_pos ⟨rfl, c⟩, if_pos ⟨by decide, c⟩]
              · rw [if_neg (fun z => c z.2), if_neg (fun z => c z.2)]
            · rw [if_neg (fun z => absurd z.1 (by decide))]
              rfl
          rw [eA]
          have fin : ∀ (r9 : Nat → Nat) {w : Int32}, BM r9 → r9 7 = V → ∃ rv2 f2, BM rv2 ∧ f2 0 = maC n (mk3 (x * y, V, 1)) 4 ∧ Er (d + 5) 111 (199, [some (.ref 1), some (.int (nI k)), some (.int (nI a)), some (.int (nI b)), some (.int (iZ x)), some (.int (iZ y)), some (.int w)], [], ZS σ r9 f) (.inl (some (.int (maV n (mk3 (x * y, V, 1))))), ZS (maS σ n (mk3 (x * y, V, 1))) rv2 f2, 0) := by
            intro r9 w B9 e7
            have t1 := z_copy (d := d + 3) (σ := σ) (rv := r9) (f := f) (a := 7) (b := 0) (by decide) (by decide) (by decide) B9
            rw [e7] at t1
            have D1 := BM_up (i := 0) B9 (B64 hV63)
            have D2 := BM_up (i := 1) D1 (B64 h13)
            have u0 : up (up r9 0 V) 1 1 0 = V := by rw [up_n (by decide), up_s]
            have u1 : up (up r9 0 V) 1 1 1 = 1 := up_s _ _ _
            obtain ⟨rv2, f2, b2, w2, hr⟩ := z_mk (d := d + 1) (f := f) (σ := σ) (rv := up (up r9 0 V) 1 1) (s := x * y) (c := 4) (T := mk3 (x * y, V, 1)) hn h60 D2 (by rw [u1]; decide) (by rw [u0]; exact hV63) (by rw [u1]; exact h13) (by rw [u0, u1])
            refine ⟨rv2, f2, b2, w2, b111_199 k1 t1 (b111_206 k1 (z_set (r := 1) (n := 1) (by decide) D1 (by decide)) (b111_212 k1 ?_ b111_222))⟩
            rw [iZ_mul]
            exact hr
          have to179 : ∀ {r : Rs}, Er (d + 5) 111 (179, [some (.ref 1), some (.int (nI k)), some (.int (nI a)), some (.int (nI b)), some (.int (iZ x)), some (.int (iZ y)), some (.int dn)], [], ZS σ r8 f) r → Er (d + 5) 111 (0, ent 111 [.ref 1, .int (nI k), .int (nI a), .int (nI b)], [], ZS σ rv f) r := fun h =>
            to166 (b111_166 (fun _ => h) (fun z => b111_173 (fun w => absurd ((kI 6 (by decide)).mpr (by rcases c46 with e | e; exact absurd ((kI 4 (by decide)).mpr e) z; exact e)) w) (fun _ => h)))
          by_cases c : k < 6 ∧ x * y < 0 ∧ M ≠ 0
          · rw [if_pos c] at hdn hV
            have t1 := z_set (d := d + 2) (σ := σ) (rv := r8) (f := f) (r := 9) (n := 1) (by decide) C1 (by decide)
            have D1 := BM_up (i := 9) C1 (B64 h13)
            have t2 := z_addM (d := d + 3) (σ := σ) (rv := up r8 9 1) (f := f) (a := 7) (b := 9) (by decide) (by decide) (by decide) D1 (by rw [up_s, up_n (by decide), y7, ← hV]; exact B64 hV63)
            rw [up_s, up_n (i := 9) (j := 7) (by decide), y7, ← hV] at t2
            obtain ⟨rv2, f2, b2, w2, hr⟩ := fin (up (up r8 9 1) 7 V) (w := 1) (BM_up D1 (B64 hV63)) (up_s _ _ _)
            refine ⟨rv2, f2, b2, w2, to179 ?_⟩
            rw [hdn]
            exact b111_179 (fun z => absurd z (by decide)) (fun _ => b111_184 k1 t1 (b111_191 k1 t2 hr))
          · rw [if_neg c] at hdn hV
            obtain ⟨rv2, f2, b2, w2, hr⟩ := fin r8 (w := 0) C1 (by rw [y7, hV])
            refine ⟨rv2, f2, b2, w2, to179 ?_⟩
            rw [hdn]
            exact b111_179 (fun _ => hr) (fun z => absurd rfl z)
        · -- a rest
          have t1 := z_copy (d := d + 3) (σ := σ) (rv := r8) (f := f) (a := 8) (b := 0) (by decide) (by decide) (by decide) C1
          rw [y8] at t1
          have D1 := BM_up (i := 0) C1 (b16_64 hM16)
          have to223 : ∀ {r : Rs}, Er (d + 5) 111 (223, [some (.ref 1), some (.int (nI k)), some (.int (nI a)), some (.int (nI b)), some (.int (iZ x)), some (.int (iZ y)), some (.int dn)], [], ZS σ r8 f) r → Er (d + 5) 111 (0, ent 111 [.ref 1, .int (nI k), .int (nI a), .int (nI b)], [], ZS σ rv f) r := fun h =>
            to166 (b111_166 (fun z => absurd ((kI 4 (by decide)).mp z) (fun e => c46 (Or.inl e))) (fun _ => b111_173 (fun _ => h) (fun z => absurd ((kI 6 (by decide)).mp z) (fun e => c46 (Or.inr e)))))
          have k57 : k = 5 ∨ k = 7 := by omega
          by_cases c : k < 6 ∧ x * y < 0 ∧ M ≠ 0
          · rw [if_pos c] at hdn
            have e5k : k = 5 := by omega
            have eA : actM k x (P a) (Q a) y (P b) (Q b) = (y, R - M, q) := by
              rw [hMM, eL, eR] at c
              rw [hMM, eL, eR, eq, e5k]
              exact if_pos c.2
            rw [eA]
            have t2 := z_copy (d := d + 3) (σ := σ) (rv := up r8 0 M) (f := f) (a := 5) (b := 0) (by decide) (by decide) (by decide) D1
            rw [up_n (i := 0) (j := 5) (by decide), y5, up_up] at t2
            have D2 := BM_up (i := 0) C1 R64
            have t3 := z_takeM (d := d + 3) (σ := σ) (rv := up r8 0 R) (f := f) (a := 0) (b := 8) (by decide) (by decide) (by decide) D2 (by rw [up_s, up_n (by decide), y8]; omega)
            rw [up_s, up_n (i := 0) (j := 8) (by decide), y8, up_up] at t3
            have s63 : R - M < Bp 63 := Nat.lt_of_le_of_lt (Nat.sub_le _ _) (b16_63 hR)
            have D3 := BM_up (i := 0) C1 (B64 s63)
            have t4 := z_copy (d := d + 3) (σ := σ) (rv := up r8 0 (R - M)) (f := f) (a := 6) (b := 1) (by decide) (by decide) (by decide) D3
            rw [up_n (i := 0) (j := 6) (by decide), y6] at t4
            have D4 := BM_up (i := 1) D3 q64
            have u0 : up (up r8 0 (R - M)) 1 q 0 = R - M := by rw [up_n (by decide), up_s]
            have u1 : up (up r8 0 (R - M)) 1 q 1 = q := up_s _ _ _
            obtain ⟨rv2, f2, b2, w2, hr⟩ := z_mk (d := d + 1) (f := f) (σ := σ) (rv := up (up r8 0 (R - M)) 1 q) (s := y) (c := 4) (T := mk3 (y, R - M, q)) hn h60 D4 (by rw [u1]; exact hq0) (by rw [u0]; exact s63) (by rw [u1]; exact b16_63 hq) (by rw [u0, u1])
            refine ⟨rv2, f2, b2, w2, to223 ?_⟩
            rw [hdn]
            exact b111_223 k1 t1 (b111_230 (fun z => absurd z (by decide)) (fun _ => b111_235 k1 t2 (b111_241 k1 t3 (b111_248 k1 t4 (b111_255 (fun z => absurd z (by decide)) (fun _ => b111_261 (b111_268 k1 hr b111_272)))))))
          · rw [if_neg c] at hdn
            have eA : actM k x (P a) (Q a) y (P b) (Q b) = (x, M, q) := by
              rw [hMM, eL, eR] at c
              rw [hMM, eL, eR, eq]
              rcases k57 with rfl | rfl
              · exact if_neg (fun z => c ⟨by decide, z⟩)
              · rfl
            rw [eA]
            have t4 := z_copy (d := d + 3) (σ := σ) (rv := up r8 0 M) (f := f) (a := 6) (b := 1) (by decide) (by decide) (by decide) D1
            rw [up_n (i := 0) (j := 6) (by decide), y6] at t4
            have D4 := BM_up (i := 1) D1 q64
            have u0 : up (up r8 0 M) 1 q 0 = M := by rw [up_n (by decide), up_s]
            have u1 : up (up r8 0 M) 1 q 1 = q := up_s _ _ _
            obtain ⟨rv2, f2, b2, w2, hr⟩ := z_mk (d := d + 1) (f := f) (σ := σ) (rv := up (up r8 0 M) 1 q) (s := x) (c := 4) (T := mk3 (x, M, q)) hn h60 D4 (by rw [u1]; exact hq0) (by rw [u0]; exact b16_63 hM16) (by rw [u1]; exact b16_63 hq) (by rw [u0, u1])
            refine ⟨rv2, f2, b2, w2, to223 ?_⟩
            rw [hdn]
            exact b111_223 k1 t1 (b111_230 (fun _ => b111_248 k1 t4 (b111_255 (fun _ => b111_266 (b111_268 k1 hr b111_272)) (fun z => absurd rfl z))) (fun z => absurd rfl z))
end
