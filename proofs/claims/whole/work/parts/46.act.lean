/-! NumberModels: quotients, rests, powers -/
theorem b256 {x : Nat} : bln x ≤ 256 ↔ x < Bp 8 := bln_le
theorem pow_bits {b n k : Nat} (h : bln (b ^ n) ≤ 256) (hk : k ≤ n) : bln (b ^ k) ≤ 256 := by
  rcases Nat.eq_zero_or_pos b with h0 | h0
  · subst h0
    rcases Nat.eq_zero_or_pos k with g | g
    · subst g; decide
    · rw [Nat.zero_pow g]; decide
  · rw [bln_le] at h ⊢
    exact Nat.lt_of_le_of_lt (Nat.pow_le_pow_right h0 hk) h
section
variable {d : Nat} {σ : St} {nv : Nat → Nat} {sd : Nat → Int32} {g : Nat → Nat → Int64} {x y : Int} {p1 q1 p2 q2 : Nat}
def quoT (dn : Bool) (z : Int) (D M : Nat) : Nat := if dn = true ∧ z < 0 ∧ M ≠ 0 then D + 1 else D
theorem x_takeQ {dn : Bool} {D M : Nat} (h : Rd nv sd x y p1 q1 p2 q2) (h1 : Num x p1 q1) (h2 : Num y p2 q2) (e16 : nv 16 = D) (e17 : nv 17 = M) (hD : D < 2 ^ 600) :
    ∃ nv2 sd2, Er (d + 5) 57 (0, ent 57 [.ref 0, .int (if dn then 1 else 0)], [], KS σ nv sd g) (.inl none, KS σ nv2 sd2 g, 0) ∧ Mad nv2 sd2 (if quoT dn (x * y) D M = 0 then 0 else x * y) (quoT dn (x * y) D M) 1 := by
  obtain ⟨hb, e8, e9, e10, e11, e5, e6⟩ := h
  have hxy := s3 h1.s h2.s
  have gz : gfi (KS σ nv sd g) (fr 0 3) 2 * gfi (KS σ nv sd g) (fr 0 4) 2 = iZ (x * y) := by
    rw [show fr 0 3 = 5 from rfl, show fr 0 4 = 6 from rfl, KS_sd (by decide), KS_sd (by decide), e5, e6, iZ_mul]
  have fin : ∀ (nv1 : Nat → Nat) (q : Nat) (x1 : Int32), Bd nv1 → nv1 16 = q → q < 2 ^ 640 → ∃ nv2 sd2, Er (d + 5) 57 (47, [some (.ref 0), some (.int x1), some (.int (iZ (x * y)))], [], KS σ nv1 sd g) (.inl none, KS σ nv2 sd2 g, 0) ∧ Mad nv2 sd2 (if q = 0 then 0 else x * y) q 1 := by
    intro nv1 q x1 hb1 hq hq6
    have t := r_takeWhole (d := d) (σ := σ) (nv := nv1) (sd := sd) (g := g) (i := 16) (s := iZ (x * y)) N16 (by decide) hb1
    rw [hq] at t
    refine ⟨_, _, b57_47 k0 k3 k7 t b57_62, Bd_up (Bd_up hb1 hq6) (Nat.one_lt_two_pow (by decide)), by rw [up_n (by decide), up_s], up_s _ _ _, ?_⟩
    rw [upi_s]
    by_cases z : q = 0
    · rw [if_pos z, if_pos z]; rfl
    · rw [if_neg z, if_neg z]
  have cont : ∀ {q : Rs} {x1 : Int32}, (x1 = 0 → Er (d + 5) 57 (47, [some (.ref 0), some (.int x1), some (.int (iZ (x * y)))], [], KS σ nv sd g) q) → (¬ x1 = 0 → 0 ≤ x * y → Er (d + 5) 57 (47, [some (.ref 0), some (.int x1), some (.int (iZ (x * y)))], [], KS σ nv sd g) q) → (¬ x1 = 0 → x * y < 0 → Er (d + 5) 57 (24, [some (.ref 0), some (.int x1), some (.int (iZ (x * y)))], [], KS σ nv sd g) q) → Er (d + 5) 57 (0, ent 57 [.ref 0, .int x1], [], KS σ nv sd g) q := by
    intro q x1 h1 h2 h3
    refine b57_0 k0 k5 k6 (fun z => ?_) (fun z => ?_)
    · rw [gz]; exact h1 z
    · rw [gz]
      refine b57_20 (fun w => ?_) (fun w => ?_)
      · rw [iz_ge0 (by omega) (by omega)] at w
        exact h2 z w
      · rw [iz_ge0 (by omega) (by omega)] at w
        exact h3 z (by omega)
  cases dn with
  | false =>
    rw [show quoT false (x * y) D M = D from if_neg (by simp)]
    obtain ⟨nv2, sd2, hE, hM⟩ := fin nv D 0 hb e16 (l640 hD)
    exact ⟨nv2, sd2, cont (fun _ => hE) (fun z => absurd rfl z) (fun z => absurd rfl z), hM⟩
  | true =>
    by_cases hz : x * y < 0
    · have tz := m_isZero (d := d + 3) (σ := σ) (sd := sd) (g := g) (i := 17) N17 hb
      rw [e17] at tz
      by_cases hM0 : M = 0
      · rw [show quoT true (x * y) D M = D from if_neg (fun q => q.2.2 hM0)]
        obtain ⟨nv2, sd2, hE, hM⟩ := fin nv D 1 hb e16 (l640 hD)
        rw [if_pos hM0] at tz
        exact ⟨nv2, sd2, cont (fun z => absurd z (by decide)) (fun _ w => by omega) (fun _ _ => b57_24 k0 k3 N17.k tz (b57_34 (fun _ => hE) (fun z => absurd z (by decide)))), hM⟩
      · rw [show quoT true (x * y) D M = D + 1 from if_pos ⟨rfl, hz, hM0⟩]
        rw [if_neg hM0] at tz
        have hD1 : D + 1 < 2 ^ 640 := Nat.lt_of_lt_of_le (Nat.succ_lt_succ hD) (Nat.pow_lt_pow_right (by decide) (by decide) : 2 ^ 600 < 2 ^ 640)
        have ta := m_addOne (d := d + 2) (σ := σ) (sd := sd) (g := g) (i := 16) N16 hb (by rw [e16]; exact hD1)
        rw [e16] at ta
        obtain ⟨nv2, sd2, hE, hM⟩ := fin (up nv 16 (D + 1)) (D + 1) 1 (Bd_up hb hD1) (up_s _ _ _) hD1
        exact ⟨nv2, sd2, cont (fun z => absurd z (by decide)) (fun _ w => by omega) (fun _ _ => b57_24 k0 k3 N17.k tz (b57_34 (fun z => absurd rfl z) (fun _ => b57_37 k0 k3 N16.k ta hE))), hM⟩
    · rw [show quoT true (x * y) D M = D from if_neg (fun q => hz q.2.1)]
      obtain ⟨nv2, sd2, hE, hM⟩ := fin nv D 1 hb e16 (l640 hD)
      exact ⟨nv2, sd2, cont (fun z => absurd z (by decide)) (fun _ _ => hE) (fun _ w => absurd w hz), hM⟩
def restB (dn : Bool) (z : Int) (M : Nat) : Prop := dn = true ∧ z < 0 ∧ M ≠ 0
theorem x_takeR {dn : Bool} {R M : Nat} (h : Rd nv sd x y p1 q1 p2 q2) (h1 : Num x p1 q1) (h2 : Num y p2 q2) (e15 : nv 15 = R) (e17 : nv 17 = M) (hM : M ≤ R) :
    ∃ nv2 sd2, Er (d + 3) 58 (0, ent 58 [.ref 0, .int (if dn then 1 else 0)], [], KS σ nv sd g) (.inl none, KS σ nv2 sd2 g, 0) ∧ ((restB dn (x * y) M ∧ Mad nv2 sd2 y (R - M) (q1 * q2)) ∨ (¬ restB dn (x * y) M ∧ Mad nv2 sd2 x M (q1 * q2))) := by
  obtain ⟨hb, e8, e9, e10, e11, e5, e6⟩ := h
  have hxy := s3 h1.s h2.s
  have n1 := nd8 h1.2.1
  have n2 := nd8 h2.2.1
  have hM6 : M < 2 ^ 640 := by rw [← e17]; exact hb 17
  have hR6 : R < 2 ^ 640 := by rw [← e15]; exact hb 15
  have b1 := Bd_up (i := 12) hb hM6
  have t1 := m_takeN (d := d + 1) (σ := σ) (nv := nv) (sd := upi sd 7 (iZ x)) (g := g) (i := 12) (k := 17) N12 N17 hb
  rw [e17] at t1
  have e9' : up nv 12 M 9 = q1 := by rw [up_n (by decide), e9]
  have e11' : up nv 12 M 11 = q2 := by rw [up_n (by decide), e11]
  have t2 := m_product (d := d) (σ := σ) (nv := up nv 12 M) (sd := upi sd 7 (iZ x)) (g := g) (i := 13) (k := 9) (l := 11) N13 N9 N11 (by decide) (by decide) b1 (by rw [e9', e11']; omega)
  rw [e9', e11'] at t2
  obtain ⟨nv1, hnv1⟩ : ∃ nv1, nv1 = up (up nv 12 M) 13 (q1 * q2) := ⟨_, rfl⟩
  rw [← hnv1] at t2
  have b2 : Bd nv1 := by rw [hnv1]; exact Bd_up b1 (l640 (lt16 (mul16 h1.2.1 h2.2.1)))
  have v15 : nv1 15 = R := by rw [hnv1, up_n (by decide), up_n (by decide), e15]
  have v17 : nv1 17 = M := by rw [hnv1, up_n (by decide), up_n (by decide), e17]
  have v12 : nv1 12 = M := by rw [hnv1, up_n (by decide), up_s]
  have v13 : nv1 13 = q1 * q2 := by rw [hnv1, up_s]
  have start : ∀ {q : Rs} {x1 : Int32}, Er (d + 3) 58 (55, [some (.ref 0), some (.int x1)], [], KS σ nv1 (upi sd 7 (iZ x)) g) q → Er (d + 3) 58 (0, ent 58 [.ref 0, .int x1], [], KS σ nv sd g) q := by
    intro q x1 hq
    refine b58_0 (σ2 := KS σ (up nv 12 M) (upi sd 7 (iZ x)) g) k0 k5 k7s k7 k3 N12.k ?_ (b58_31 k0 k7 k5 k6 N13.k t2 hq)
    rw [show fr 0 3 = 5 from rfl, show fr 0 5 = 7 from rfl, KS_sd (by decide), KS_ssd (by decide), e5]
    exact t1
  have gz : gfi (KS σ nv1 (upi sd 7 (iZ x)) g) (fr 0 3) 2 * gfi (KS σ nv1 (upi sd 7 (iZ x)) g) (fr 0 4) 2 = iZ (x * y) := by
    rw [show fr 0 3 = 5 from rfl, show fr 0 4 = 6 from rfl, KS_sd (by decide), KS_sd (by decide), upi_n (by decide), upi_n (by decide), e5, e6, iZ_mul]
  have plain : Mad nv1 (upi sd 7 (iZ x)) x M (q1 * q2) := ⟨b2, v12, v13, upi_s _ _ _⟩
  cases dn with
  | false =>
    exact ⟨nv1, upi sd 7 (iZ x), start (b58_55 (fun _ => b58_135) (fun z => absurd rfl z)), Or.inr ⟨fun q => absurd q.1 (by simp), plain⟩⟩
  | true =>
    by_cases hz : x * y < 0
    · have tz := m_isZero (d := d + 1) (σ := σ) (nv := nv1) (sd := upi sd 7 (iZ x)) (g := g) (i := 17) N17 b2
      rw [v17] at tz
      have to77 : ∀ {q : Rs}, Er (d + 3) 58 (77, [some (.ref 0), some (.int 1)], [], KS σ nv1 (upi sd 7 (iZ x)) g) q → Er (d + 3) 58 (0, ent 58 [.ref 0, .int 1], [], KS σ nv sd g) q := by
        intro q hq
        refine start (b58_55 (fun z => absurd z (by decide)) (fun _ => b58_59 k0 k5 k6 (fun w => ?_) (fun _ => hq)))
        rw [gz, iz_ge0 (by omega) (by omega)] at w
        omega
      by_cases hM0 : M = 0
      · rw [if_pos hM0] at tz
        exact ⟨nv1, upi sd 7 (iZ x), to77 (b58_77 k0 k3 N17.k tz (b58_87 (fun _ => b58_135) (fun z => absurd z (by decide)))), Or.inr ⟨fun q => q.2.2 hM0, plain⟩⟩
      · rw [if_neg hM0] at tz
        have eu : upi (upi sd 7 (iZ x)) 7 (iZ y) = upi sd 7 (iZ y) := by
          funext j
          unfold upi
          by_cases q : j = 7
          · rw [if_pos q, if_pos q]
          · rw [if_neg q, if_neg q, if_neg q]
        have t3 := m_takeN (d := d + 1) (σ := σ) (nv := nv1) (sd := upi sd 7 (iZ y)) (g := g) (i := 12) (k := 15) N12 N15 b2
        rw [v15] at t3
        have b3 := Bd_up (i := 12) b2 hR6
        have t4 := m_sub (d := d) (σ := σ) (nv := up nv1 12 R) (sd := upi sd 7 (iZ y)) (g := g) (i := 12) (k := 17) N12 N17 (by decide) b3 (by rw [up_s, up_n (by decide), v17]; exact hM)
        rw [up_s, up_n (by decide), v17, up_up] at t4
        refine ⟨up nv1 12 (R - M), upi sd 7 (iZ y), to77 (b58_77 k0 k3 N17.k tz (b58_87 (fun z => absurd rfl z) (fun _ => ?_))), Or.inl ⟨⟨rfl, hz, hM0⟩, Bd_up b2 (Nat.lt_of_le_of_lt (Nat.sub_le _ _) hR6), up_s _ _ _, by rw [up_n (by decide), v13], upi_s _ _ _⟩⟩
        refine b58_90 (σ2 := KS σ (up nv1 12 R) (upi sd 7 (iZ y)) g) k0 k6 k7s k7 N12.k ?_ (b58_118 k0 k7 k3 N12.k t4 b58_135)
        rw [show fr 0 4 = 6 from rfl, show fr 0 5 = 7 from rfl, KS_sd (by decide), KS_ssd (by decide), upi_n (by decide), e6, eu]
        exact t3
    · refine ⟨nv1, upi sd 7 (iZ x), start (b58_55 (fun z => absurd z (by decide)) (fun _ => b58_59 k0 k5 k6 (fun _ => b58_135) (fun w => ?_))), Or.inr ⟨fun q => hz q.2.1, plain⟩⟩
      rw [gz, iz_ge0 (by omega) (by omega)] at w
      omega
theorem x_raiseInto {pi bi n B : Nat} (hpi : pi = 12 ∨ pi = 13) (hbi : bi = 8 ∨ bi = 9) (hn : n ≤ 300) (hb : Bd nv) (hB : nv bi = B) (hB8 : B < Bp 8) :
    ∃ nv2, Er (d + 7) 60 (0, ent 60 [.ref 0, .ref pi, .ref bi, .int (nI n)], [], KS σ nv sd g) (if bln (B ^ n) ≤ 256 then (.inl none, KS σ nv2 sd g, 0) else (.inr 3, KS σ nv2 sd g, 1)) ∧ Bd nv2 ∧ (bln (B ^ n) ≤ 256 → nv2 pi = B ^ n) ∧ ∀ j, j ≠ pi → j ≠ 14 → nv2 j = nv j := by
  have hpN : NI pi := by rcases hpi with rfl | rfl; exact N12; exact N13
  have hbN : NI bi := by rcases hbi with rfl | rfl; exact N8; exact N9
  have one : ∀ {nvc : Nat → Nat} {a : Nat} {l : Nat} {q : Rs} , Bd nvc → nvc pi = a → a < Bp 8 → NI l → l ≠ 14 → nvc l < Bp 8 → True := fun _ _ _ _ _ _ => trivial
  have hBp : ∀ x : Nat, x < Bp 16 → x < 2 ^ 640 := fun x h => l640 (lt16 h)
  have loop : ∀ k (nvc : Nat → Nat), k ≤ 9 → Bd nvc → nvc pi = B ^ (n / 2 ^ k) → bln (B ^ (n / 2 ^ k)) ≤ 256 → (∀ j, j ≠ pi → j ≠ 14 → nvc j = nv j) →
      ∃ nv2, Er (d + 7) 60 (14, [some (.ref 0), some (.ref pi), some (.ref bi), some (.int (nI n)), some (.int (nI k - 1))], [], KS σ nvc sd g) (if bln (B ^ n) ≤ 256 then (.inl none, KS σ nv2 sd g, 0) else (.inr 3, KS σ nv2 sd g, 1)) ∧ Bd nv2 ∧ (bln (B ^ n) ≤ 256 → nv2 pi = B ^ n) ∧ ∀ j, j ≠ pi → j ≠ 14 → nv2 j = nv j := by
    intro k
    induction k with
    | zero =>
      intro nvc _ hbc hp hl hfr
      rw [Nat.pow_zero, Nat.div_one] at hp hl
      refine ⟨nvc, ?_, hbc, fun _ => hp, hfr⟩
      rw [if_pos hl]
      exact b60_14 (fun _ => b60_78) (fun z => absurd (by decide) z)
    | succ k ih =>
      intro nvc hk9 hbc hp hl hfr
      obtain ⟨e, he⟩ : ∃ e, e = n / 2 ^ (k + 1) := ⟨_, rfl⟩
      have hek : n / 2 ^ k / 2 = e := by rw [he, Nat.pow_succ, Nat.div_div_eq_div_mul]
      have hkn : n / 2 ^ k ≤ n := Nat.div_le_self _ _
      rw [← he] at hp hl
      have hp8 := b256.mp hl
      have hsq : B ^ e * B ^ e = B ^ (2 * e) := by rw [← Nat.pow_add, ← Nat.two_mul]
      have h2e : B ^ (2 * e) < Bp 16 := by rw [← hsq]; exact mul16 hp8 hp8
      have n1 := nd8 hp8
      have m1 := m_product (d := d + 4) (σ := σ) (nv := nvc) (sd := sd) (g := g) (i := 14) (k := pi) (l := pi) N14 hpN hpN (by omega) (by omega) hbc (by rw [hp]; omega)
      rw [hp, hsq] at m1
      have b1 := Bd_up (i := 14) hbc (hBp _ h2e)
      have m2 := m_takeN (d := d + 5) (σ := σ) (nv := up nvc 14 (B ^ (2 * e))) (sd := sd) (g := g) (i := pi) (k := 14) hpN N14 b1
      rw [up_s] at m2
      obtain ⟨nv1, hnv1⟩ : ∃ nv1, nv1 = up (up nvc 14 (B ^ (2 * e))) pi (B ^ (2 * e)) := ⟨_, rfl⟩
      rw [← hnv1] at m2
      have b2 : Bd nv1 := by rw [hnv1]; exact Bd_up b1 (hBp _ h2e)
      have v1 : nv1 pi = B ^ (2 * e) := by rw [hnv1, up_s]
      have fr1 : ∀ j, j ≠ pi → j ≠ 14 → nv1 j = nv j := by
        intro j h1 h2
        rw [hnv1, up_n h1, up_n h2, hfr j h1 h2]
      have m3 := x_bits (d := d) (S := σ) (σ := σ) (nv := nv1) (sd := sd) (g := g) (i := pi) hpN b2
      rw [v1] at m3
      have start : ∀ {q : Rs}, Er (d + 7) 60 (36, [some (.ref 0), some (.ref pi), some (.ref bi), some (.int (nI n)), some (.int (nI k))], [], KS σ nv1 sd g) q → Er (d + 7) 60 (14, [some (.ref 0), some (.ref pi), some (.ref bi), some (.int (nI n)), some (.int (nI (k + 1) - 1))], [], KS σ nvc sd g) q := by
        intro q hq
        rw [nI_pred]
        exact b60_14 (fun z => absurd z (nI_pos (by omega))) (fun _ => b60_19 k0 N14.k m1 (b60_28 k0 hpN.k m2 hq))
      by_cases hl2 : bln (B ^ (2 * e)) ≤ 256
      · rw [if_pos hl2] at m3
        have hbit : (((nI n).toUInt32 >>> ((nI k).toUInt32 &&& Int32.toUInt32 31)).toInt32 &&& (1 : Int32)) = nI (n / 2 ^ k % 2) := by
          have hs : ∀ k, k < 32 → ((((nI k).toUInt32 &&& Int32.toUInt32 31).toBitVec % 32).toNat) = k := by decide +kernel
          rw [pk_ushrN (by omega) (nI k) k (hs k (by omega))]
          exact pk_andN (n := n / 2 ^ k) (m := 1) (by omega) 1 rfl
        by_cases hbt : n / 2 ^ k % 2 = 0
        · have e2 : n / 2 ^ k = 2 * e := by omega
          obtain ⟨nv2, hE, rest⟩ := ih nv1 (by omega) b2 (by rw [e2]; exact v1) (by rw [e2]; exact hl2) fr1
          refine ⟨nv2, start (b60_36 k0 m3 (b60_41 (fun _ => b60_72 ?_) (fun z => ?_))), rest⟩
          · rw [add_m1]; exact hE
          · rw [hbit, hbt] at z
            exact absurd rfl z
        · have e2 : n / 2 ^ k = 2 * e + 1 := by omega
          have hp9 := b256.mp hl2
          have n3 := nd8 hp9
          have n4 := nd8 hB8
          have vb : nv1 bi = B := by rw [fr1 bi (by omega) (by omega), hB]
          have hmul : B ^ (2 * e) * B = B ^ (2 * e + 1) := (Nat.pow_succ _ _).symm
          have h3e : B ^ (2 * e + 1) < Bp 16 := by rw [← hmul]; exact mul16 hp9 hB8
          have m4 := m_product (d := d + 4) (σ := σ) (nv := nv1) (sd := sd) (g := g) (i := 14) (k := pi) (l := bi) N14 hpN hbN (by omega) (by omega) b2 (by rw [v1, vb]; omega)
          rw [v1, vb, hmul] at m4
          have b3 := Bd_up (i := 14) b2 (hBp _ h3e)
          have m5 := m_takeN (d := d + 5) (σ := σ) (nv := up nv1 14 (B ^ (2 * e + 1))) (sd := sd) (g := g) (i := pi) (k := 14) hpN N14 b3
          rw [up_s] at m5
          obtain ⟨nv3, hnv3⟩ : ∃ nv3, nv3 = up (up nv1 14 (B ^ (2 * e + 1))) pi (B ^ (2 * e + 1)) := ⟨_, rfl⟩
          rw [← hnv3] at m5
          have b4 : Bd nv3 := by rw [hnv3]; exact Bd_up b3 (hBp _ h3e)
          have v3 : nv3 pi = B ^ (2 * e + 1) := by rw [hnv3, up_s]
          have fr3 : ∀ j, j ≠ pi → j ≠ 14 → nv3 j = nv j := by
            intro j h1 h2
            rw [hnv3, up_n h1, up_n h2, fr1 j h1 h2]
          have m6 := x_bits (d := d) (S := σ) (σ := σ) (nv := nv3) (sd := sd) (g := g) (i := pi) hpN b4
          rw [v3] at m6
          have mid : ∀ {q : Rs}, Er (d + 7) 60 (67, [some (.ref 0), some (.ref pi), some (.ref bi), some (.int (nI n)), some (.int (nI k))], [], KS σ nv3 sd g) q → Er (d + 7) 60 (14, [some (.ref 0), some (.ref pi), some (.ref bi), some (.int (nI n)), some (.int (nI (k + 1) - 1))], [], KS σ nvc sd g) q := by
            intro q hq
            refine start (b60_36 k0 m3 (b60_41 (fun z => ?_) (fun _ => b60_50 k0 N14.k m4 (b60_59 k0 hpN.k m5 hq))))
            rw [hbit, show n / 2 ^ k % 2 = 1 by omega] at z
            exact absurd z (by decide)
          by_cases hl3 : bln (B ^ (2 * e + 1)) ≤ 256
          · rw [if_pos hl3] at m6
            obtain ⟨nv2, hE, rest⟩ := ih nv3 (by omega) b4 (by rw [e2]; exact v3) (by rw [e2]; exact hl3) fr3
            refine ⟨nv2, mid (b60_67 k0 m6 (b60_72 ?_)), rest⟩
            rw [add_m1]; exact hE
          · rw [if_neg hl3] at m6
            have hno : ¬ bln (B ^ n) ≤ 256 := fun q => hl3 (pow_bits q (by omega))
            refine ⟨nv3, ?_, b4, fun q => absurd q hno, fr3⟩
            rw [if_neg hno]
            exact mid (b60_67x k0 (by decide) m6)
      · rw [if_neg hl2] at m3
        have hno : ¬ bln (B ^ n) ≤ 256 := fun q => hl2 (pow_bits q (by omega))
        refine ⟨nv1, ?_, b2, fun q => absurd q hno, fr1⟩
        rw [if_neg hno]
        exact start (b60_36x k0 (by decide) m3)
  have hl9 : bln n ≤ 9 := by rw [bln_le]; omega
  have b0 := Bd_up (i := pi) (v := 1) hb (Nat.one_lt_two_pow (by decide))
  have hz : n / 2 ^ bln n = 0 := Nat.div_eq_of_lt bln_lt
  obtain ⟨nv2, hE, rest⟩ := loop (bln n) (up nv pi 1) hl9 b0 (by rw [hz, up_s, Nat.pow_zero]) (by rw [hz, Nat.pow_zero]; decide) (fun j h1 _ => up_n h1)
  refine ⟨nv2, b60_0 hpN.k (m_takeJ (n := 1) hpN hb (by decide)) (b60_5 (σ2 := KS σ (up nv pi 1) sd g) (r := nI (bln n)) ?_ (b60_10 hE)), rest⟩
  rw [nI_l (by omega)]
  exact c_length (by omega)
theorem x_raise {n bt bb : Nat} (h : Rd nv sd x y p1 q1 p2 q2) (h1 : Num x p1 q1) (h2 : Num y p2 q2) (hn : n ≤ 300) (hbt : (y < 0 ∧ bt = q1 ∧ bb = p1) ∨ (0 ≤ y ∧ bt = p1 ∧ bb = q1)) :
    ∃ nv2 sd2, Er (d + 8) 59 (0, ent 59 [.ref 0, .int (nI n)], [], KS σ nv sd g) (if bln (bt ^ n) ≤ 256 ∧ bln (bb ^ n) ≤ 256 then (.inl none, KS σ nv2 sd2 g, 0) else (.inr 3, KS σ nv2 sd2 g, 1)) ∧ Bd nv2 ∧ (bln (bt ^ n) ≤ 256 ∧ bln (bb ^ n) ≤ 256 → Mad nv2 sd2 (if bt ^ n = 0 then 0 else if n % 2 = 0 then 1 else x) (bt ^ n) (if bt ^ n = 0 then 1 else bb ^ n)) := by
  obtain ⟨hb, e8, e9, e10, e11, e5, e6⟩ := h
  have hy := h2.s
  obtain ⟨s0, hs0⟩ : ∃ s0 : Int, s0 = if n % 2 = 0 then 1 else x := ⟨_, rfl⟩
  have hbit : (nI n &&& (1 : Int32)) = nI (n % 2) := pk_andN (n := n) (m := 1) (by omega) 1 rfl
  -- which is raised into which
  obtain ⟨ti, bi, ov, hti, hbi, et, eb, hov, hne⟩ : ∃ ti bi : Nat, ∃ ov : Bool, (ti = 8 ∨ ti = 9) ∧ (bi = 8 ∨ bi = 9) ∧ nv ti = bt ∧ nv bi = bb ∧ ((ov = true ∧ y < 0 ∧ ti = 9 ∧ bi = 8) ∨ (ov = false ∧ 0 ≤ y ∧ ti = 8 ∧ bi = 9)) ∧ ti ≠ bi := by
    rcases hbt with ⟨a, rfl, rfl⟩ | ⟨a, rfl, rfl⟩
    · exact ⟨9, 8, true, Or.inr rfl, Or.inl rfl, e9, e8, Or.inl ⟨rfl, a, rfl, rfl⟩, by decide⟩
    · exact ⟨8, 9, false, Or.inl rfl, Or.inr rfl, e8, e9, Or.inr ⟨rfl, a, rfl, rfl⟩, by decide⟩
  have hbt8 : bt < Bp 8 := by rcases hbt with ⟨_, rfl, _⟩ | ⟨_, rfl, _⟩; exact h1.2.1; exact h1.1
  have hbb8 : bb < Bp 8 := by rcases hbt with ⟨_, _, rfl⟩ | ⟨_, _, rfl⟩; exact h1.1; exact h1.2.1
  have g6 : gfi (sfi (KS σ nv sd g) (fr 0 5) 2 (iZ s0)) (fr 0 4) 2 = iZ y := by
    rw [show fr 0 5 = 7 from rfl, show fr 0 4 = 6 from rfl, KS_ssd (by decide), KS_sd (by decide), upi_n (by decide), e6]
  have start : ∀ {q : Rs}, Er (d + 8) 59 (69, [some (.ref 0), some (.int (nI n)), some (.int (if ov then 1 else 0))], [.ref ti, .ref 12, .ref 0], KS σ nv (upi sd 7 (iZ s0)) g) q → Er (d + 8) 59 (0, ent 59 [.ref 0, .int (nI n)], [], KS σ nv sd g) q := by
    intro q hq
    have mid : Er (d + 8) 59 (21, [some (.ref 0), some (.int (nI n)), none], [.int (iZ s0), .ref (fr 0 5)], KS σ nv sd g) q := by
      refine b59_21 k7s k0 k6 (fun z => ?_) (fun z => ?_)
      · rw [g6, iz_ge0 (by omega) (by omega)] at z
        rcases hov with ⟨_, a, _⟩ | ⟨rfl, a, rfl, rfl⟩
        · omega
        · rw [show fr 0 5 = 7 from rfl, KS_ssd (by decide)]
          exact b59_38 (b59_39 k0 k7 (fun _ => b59_62 k0 k5 hq) (fun w => absurd rfl w))
      · rw [g6, iz_ge0 (by omega) (by omega)] at z
        rcases hov with ⟨rfl, a, rfl, rfl⟩ | ⟨_, a, _⟩
        · rw [show fr 0 5 = 7 from rfl, KS_ssd (by decide)]
          exact b59_34 (b59_39 k0 k7 (fun w => absurd w (by decide)) (fun _ => b59_52 k0 k5 hq))
        · omega
    refine b59_0 k0 (fun z => ?_) (fun z => ?_)
    · have : ¬ n % 2 = 0 := by
        intro w
        rw [hbit, w] at z
        exact z rfl
      rw [if_neg this] at hs0
      refine b59_14 k0 k5 ?_
      rw [show fr 0 3 = 5 from rfl, KS_sd (by decide), e5, ← hs0]
      exact mid
    · have : n % 2 = 0 := by
        rw [hbit] at z
        exact (nI_eq (b := 0) (by omega) (by decide)).mp z
      rw [if_pos this] at hs0
      refine b59_10 ?_
      rw [hs0] at mid
      exact mid
  obtain ⟨nv1, hE1, hb1, hv1, hf1⟩ := x_raiseInto (d := d) (σ := σ) (nv := nv) (sd := upi sd 7 (iZ s0)) (g := g) (pi := 12) (bi := ti) (n := n) (B := bt) (Or.inl rfl) hti hn hb et hbt8
  by_cases hl1 : bln (bt ^ n) ≤ 256
  · rw [if_pos hl1] at hE1
    obtain ⟨nv2, hE2, hb2, hv2, hf2⟩ := x_raiseInto (d := d) (σ := σ) (nv := nv1) (sd := upi sd 7 (iZ s0)) (g := g) (pi := 13) (bi := bi) (n := n) (B := bb) (Or.inr rfl) hbi hn hb1 (by rw [hf1 bi (by omega) (by omega), eb]) hbb8
    have mid : ∀ {q : Rs}, Er (d + 8) 59 (102, [some (.ref 0), some (.int (nI n)), some (.int (if ov then 1 else 0))], [.ref bi, .ref 13, .ref 0], KS σ nv1 (upi sd 7 (iZ s0)) g) q → Er (d + 8) 59 (0, ent 59 [.ref 0, .int (nI n)], [], KS σ nv sd g) q := by
      intro q hq
      refine start (b59_69 k0 hE1 ?_)
      rcases hov with ⟨rfl, a, rfl, rfl⟩ | ⟨rfl, a, rfl, rfl⟩
      · exact b59_73 k0 k7 (fun w => absurd w (by decide)) (fun _ => b59_85 k0 k5 hq)
      · exact b59_73 k0 k7 (fun _ => b59_95 k0 k5 hq) (fun w => absurd rfl w)
    by_cases hl2 : bln (bb ^ n) ≤ 256
    · rw [if_pos hl2] at hE2
      have v12 : nv2 12 = bt ^ n := by rw [hf2 12 (by decide) (by decide), hv1 hl1]
      have v13 : nv2 13 = bb ^ n := hv2 hl2
      have t := r_straighten (d := d + 4) (σ := σ) (nv := nv2) (sd := upi sd 7 (iZ s0)) (g := g) hb2
      rw [v12] at t
      by_cases hz : bt ^ n = 0
      · rw [if_pos hz] at t
        refine ⟨up nv2 13 1, upi (upi sd 7 (iZ s0)) 7 0, ?_, Bd_up hb2 (Nat.one_lt_two_pow (by decide)), fun _ => ⟨Bd_up hb2 (Nat.one_lt_two_pow (by decide)), by rw [up_n (by decide), v12], by rw [up_s, if_pos hz], by rw [upi_s, if_pos hz]; rfl⟩⟩
        rw [if_pos ⟨hl1, hl2⟩]
        exact mid (b59_102 k0 hE2 (b59_106 k0 k7 t b59_113))
      · rw [if_neg hz] at t
        refine ⟨nv2, upi sd 7 (iZ s0), ?_, hb2, fun _ => ⟨hb2, v12, by rw [v13, if_neg hz], by rw [upi_s, if_neg hz, hs0]⟩⟩
        rw [if_pos ⟨hl1, hl2⟩]
        exact mid (b59_102 k0 hE2 (b59_106 k0 k7 t b59_113))
    · rw [if_neg hl2] at hE2
      refine ⟨nv2, upi sd 7 (iZ s0), ?_, hb2, fun q => absurd q.2 hl2⟩
      rw [if_neg (fun q => hl2 q.2)]
      exact mid (b59_102x k0 (by decide) hE2)
  · rw [if_neg hl1] at hE1
    refine ⟨nv1, upi sd 7 (iZ s0), ?_, hb1, fun q => absurd q.1 hl1⟩
    rw [if_neg (fun q => hl1 q.1)]
    exact start (b59_69x k0 (by decide) hE1)
end
