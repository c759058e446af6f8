/-! NumberModels: an act performed -/
theorem sum16 {L R : Nat} (hL : L < Bp 16) (hR : R < Bp 16) : L + R < 2 ^ 600 := by
  have h : Bp 16 + Bp 16 ≤ 2 ^ 600 := by
    unfold Bp
    rw [← Nat.two_mul, ← Nat.pow_succ']
    exact Nat.pow_le_pow_right (by decide) (by decide)
  omega
section
variable {d : Nat} {σ : St} {nv : Nat → Nat} {sd : Nat → Int32} {g : Nat → Nat → Int64} {x y : Int} {p1 q1 p2 q2 : Nat}
theorem x_perf7 {k : Nat} (hk : k ≤ 7) (h : Rd nv sd x y p1 q1 p2 q2) (h1 : Num x p1 q1) (h2 : Num y p2 q2) (hD : ¬ Dz k x y) :
    ∃ nv2 sd2 g2 s p q, Er (d + 9) 53 (0, ent 53 [.ref 0, .int (nI k)], [], KS σ nv sd g) (.inl none, KS σ nv2 sd2 g2, 0) ∧ Mad nv2 sd2 s p q ∧ mk3 (s, p, q) = mk3 (actM k x p1 q1 y p2 q2) ∧ p < 2 ^ 600 ∧ q < 2 ^ 600 ∧ 0 < q := by
  have hL := mul16 h1.1 h2.2.1
  have hR := mul16 h2.1 h1.2.1
  have hQ := mul16 h1.2.1 h2.2.1
  have hPP := mul16 h1.1 h2.1
  have q10 := h1.2.2.1
  have q20 := h2.2.2.1
  have hQ0 : 0 < q1 * q2 := Nat.mul_pos q10 q20
  have g6 : gfi (KS σ nv sd g) (fr 0 4) 2 = iZ y := by rw [f04, KS_sd (by decide), h.2.2.2.2.2.2]
  have R0 : 3 ≤ k → 0 < p2 * q1 := by
    intro h3
    have : ¬ y = 0 := fun z => hD (Or.inl ⟨⟨h3, hk⟩, z⟩)
    have hp2 : 0 < p2 := by
      obtain ⟨_, _, _, _, c⟩ := h2
      omega
    exact Nat.mul_pos hp2 q10
  have hsum : ∀ z : Int, sumT x z (p1 * q2) (p2 * q1) < 2 ^ 600 := by
    intro z
    have := sum16 hL hR
    unfold sumT
    split
    · split <;> omega
    · exact this
  have one6 : (1 : Nat) < 2 ^ 600 := Nat.one_lt_two_pow (by decide)
  rcases (by omega : k = 0 ∨ k = 1 ∨ k = 2 ∨ k = 3 ∨ k = 4 ∨ k = 5 ∨ k = 6 ∨ k = 7) with rfl | rfl | rfl | rfl | rfl | rfl | rfl | rfl
  · obtain ⟨nv2, sd2, hE, hM⟩ := x_add (d := d + 5) (σ := σ) (g := g) (yy := y) h h1 h2 (Or.inl rfl)
    refine ⟨nv2, sd2, g, _, _, _, b53_0 (b53_64 k0 k6 (by rw [g6]; exact hE) (b53_75 b53_327)), hM, sum_eq h1 h2, hsum _, lt16 hQ, hQ0⟩
  · obtain ⟨nv2, sd2, hE, hM⟩ := x_add (d := d + 5) (σ := σ) (g := g) (yy := -y) h h1 h2 (Or.inr rfl)
    refine ⟨nv2, sd2, g, _, _, _, b53_0 (b53_78 k0 k6 (by rw [g6, iZ_neg]; exact hE) (b53_90 b53_327)), hM, sum_eq h1 h2.neg, hsum _, lt16 hQ, hQ0⟩
  · obtain ⟨nv2, sd2, hE, hM⟩ := x_multiply (d := d + 5) (σ := σ) (g := g) (a := 10) (b := 11) h h1 h2 (Or.inl ⟨rfl, rfl, rfl, rfl⟩)
    exact ⟨nv2, sd2, g, _, _, _, b53_0 (b53_93 k0 k6 hE (b53_111 b53_327)), hM, rfl, lt16 hPP, lt16 hQ, hQ0⟩
  · obtain ⟨nv2, sd2, hE, hM⟩ := x_multiply (d := d + 5) (σ := σ) (g := g) (a := 11) (b := 10) h h1 h2 (Or.inr ⟨rfl, rfl, rfl, rfl⟩)
    rw [Nat.mul_comm q1 p2] at hM
    exact ⟨nv2, sd2, g, _, _, _, b53_0 (b53_114 k0 k6 hE (b53_132 b53_327)), hM, rfl, lt16 hL, lt16 hR, R0 (by decide)⟩
  · obtain ⟨nv1, hE1, hr, e15, e16, e17⟩ := x_divide (d := d + 4) (σ := σ) (g := g) h h1 h2
    have hd6 : p1 * q2 / (p2 * q1) < Bp 16 := Nat.lt_of_le_of_lt (Nat.div_le_self _ _) hL
    obtain ⟨nv2, sd2, hE, hM⟩ := x_takeQ (d := d + 3) (σ := σ) (g := g) (dn := true) hr h1 h2 e16 e17 (lt16 hd6)
    refine ⟨nv2, sd2, g, _, _, _, b53_0 (b53_135 k0 hE1 (b53_139 (fun z => absurd rfl z) (fun _ => b53_145 (b53_150 k0 hE (b53_153 b53_327))))), hM, ?_, ?_, one6, Nat.one_pos⟩
    · unfold mk3 actM
      simp only
      split
      · rfl
      · rfl
    · unfold quoT
      have := sum16 hd6 (show 1 < Bp 16 from Nat.one_lt_two_pow (by decide))
      split <;> omega
  · obtain ⟨nv1, hE1, hr, e15, e16, e17⟩ := x_divide (d := d + 4) (σ := σ) (g := g) h h1 h2
    have hm := Nat.mod_lt (p1 * q2) (R0 (by decide))
    obtain ⟨nv2, sd2, hE, hM⟩ := x_takeR (d := d + 5) (σ := σ) (g := g) (dn := true) hr h1 h2 e15 e17 (Nat.le_of_lt hm)
    have run : Er (d + 9) 53 (0, ent 53 [.ref 0, .int (nI 5)], [], KS σ nv sd g) (.inl none, KS σ nv2 sd2 g, 0) := b53_0 (b53_156 k0 hE1 (b53_160 (fun z => absurd rfl z) (fun _ => b53_166 (b53_171 k0 hE (b53_174 b53_327)))))
    rcases hM with ⟨hB, hM⟩ | ⟨hB, hM⟩
    · refine ⟨nv2, sd2, g, _, _, _, run, hM, ?_, lt16 (Nat.lt_of_le_of_lt (Nat.sub_le _ _) hR), lt16 hQ, hQ0⟩
      have e : actM 5 x p1 q1 y p2 q2 = (y, p2 * q1 - p1 * q2 % (p2 * q1), q1 * q2) := if_pos hB.2
      rw [e]
    · refine ⟨nv2, sd2, g, _, _, _, run, hM, ?_, lt16 (Nat.lt_trans hm hR), lt16 hQ, hQ0⟩
      have e : actM 5 x p1 q1 y p2 q2 = (x, p1 * q2 % (p2 * q1), q1 * q2) := if_neg (fun c => hB ⟨rfl, c⟩)
      rw [e]
  · obtain ⟨nv1, hE1, hr, e15, e16, e17⟩ := x_divide (d := d + 4) (σ := σ) (g := g) h h1 h2
    have hd6 : p1 * q2 / (p2 * q1) < Bp 16 := Nat.lt_of_le_of_lt (Nat.div_le_self _ _) hL
    obtain ⟨nv2, sd2, hE, hM⟩ := x_takeQ (d := d + 3) (σ := σ) (g := g) (dn := false) hr h1 h2 e16 e17 (lt16 hd6)
    have eq : quoT false (x * y) (p1 * q2 / (p2 * q1)) (p1 * q2 % (p2 * q1)) = p1 * q2 / (p2 * q1) := if_neg (by simp)
    rw [eq] at hM
    refine ⟨nv2, sd2, g, _, _, _, b53_0 (b53_135 k0 hE1 (b53_139 (fun _ => b53_149 (b53_150 k0 hE (b53_153 b53_327))) (fun z => absurd z (by decide)))), hM, ?_, lt16 hd6, one6, Nat.one_pos⟩
    unfold mk3 actM
    simp only
    split
    · rfl
    · rfl
  · obtain ⟨nv1, hE1, hr, e15, e16, e17⟩ := x_divide (d := d + 4) (σ := σ) (g := g) h h1 h2
    have hm := Nat.mod_lt (p1 * q2) (R0 (by decide))
    obtain ⟨nv2, sd2, hE, hM⟩ := x_takeR (d := d + 5) (σ := σ) (g := g) (dn := false) hr h1 h2 e15 e17 (Nat.le_of_lt hm)
    rcases hM with ⟨hB, hM⟩ | ⟨hB, hM⟩
    · exact absurd hB.1 (by simp)
    · exact ⟨nv2, sd2, g, _, _, _, b53_0 (b53_156 k0 hE1 (b53_160 (fun _ => b53_170 (b53_171 k0 hE (b53_174 b53_327))) (fun z => absurd z (by decide)))), hM, rfl, lt16 (Nat.lt_trans hm hR), lt16 hQ, hQ0⟩
theorem mad_take {r : Nat} {s : Int} {p q : Nat} (hb : Bd nv) (hr : RI r) (ep : nv (fr r 0) = p) (eq : nv (fr r 1) = q) (es : sd r = iZ s) : Mad (up (up nv 12 (nv (fr r 0))) 13 (nv (fr r 1))) (upi sd 7 (sd r)) s p q :=
  ⟨Bd_up (Bd_up hb (hb _)) (hb _), by rw [up_n (by decide), up_s, ep], by rw [up_s, eq], by rw [upi_s, es]⟩
theorem x_perf8 {k : Nat} (hk : 8 ≤ k) (h : Rd nv sd x y p1 q1 p2 q2) (h1 : Num x p1 q1) (h2 : Num y p2 q2) (hF : Fit k q1 p2 q2) (hD : ¬ Dz k x y) :
    ∃ nv2 sd2 g2, (Er (d + 9) 53 (0, ent 53 [.ref 0, .int (nI k)], [], KS σ nv sd g) (.inl none, KS σ nv2 sd2 g2, 0) ∧ Mad nv2 sd2 (mk3 (actM k x p1 q1 y p2 q2)).1 (mk3 (actM k x p1 q1 y p2 q2)).2.1 (mk3 (actM k x p1 q1 y p2 q2)).2.2) ∨
      (Er (d + 9) 53 (0, ent 53 [.ref 0, .int (nI k)], [], KS σ nv sd g) (.inr 3, KS σ nv2 sd2 g2, 1) ∧ Bd nv2 ∧ ¬ (bln (mk3 (actM k x p1 q1 y p2 q2)).2.1 ≤ 256 ∧ bln (mk3 (actM k x p1 q1 y p2 q2)).2.2 ≤ 256)) := by
  have hb := h.1
  have e8 := h.2.1
  have e9 := h.2.2.1
  have e10 := h.2.2.2.1
  have e11 := h.2.2.2.2.1
  have e5 := h.2.2.2.2.2.1
  have e6 := h.2.2.2.2.2.2
  have hx := h1.s
  have hy := h2.s
  have lt8 : ∀ {z : Nat}, z < Bp 8 → z < 2 ^ 600 := fun hz => Nat.lt_of_lt_of_le hz (show 2 ^ (32 * 8) ≤ 2 ^ 600 from Nat.pow_le_pow_right (by decide) (by decide))
  have hk12 := hF.1
  rcases (by omega : k = 8 ∨ k = 9 ∨ k = 10 ∨ k = 11 ∨ k = 12) with rfl | rfl | rfl | rfl | rfl
  · obtain ⟨nv1, g1, hE, hg, hb1, hfr⟩ := m_find (d := d + 3) (σ := σ) (sd := sd) (g := g) (i := 8) (k := 10) N8 N10 (by decide) (by decide) hb (by rw [e8]; exact lt8 h1.1) (by rw [e10]; exact lt8 h2.1)
    rw [e8, e10] at hg
    have t := r_takeWhole (d := d + 4) (σ := σ) (nv := nv1) (sd := sd) (g := g1) (i := 19) (s := 1) N19 (by decide) hb1
    rw [hg] at t
    refine ⟨_, _, g1, Or.inl ⟨b53_0 (b53_177 k0 k5 k6 k2 hE (b53_198 k0 k2 k7 t (b53_213 b53_327))), ?_⟩⟩
    have e : mk3 (actM 8 x p1 q1 y p2 q2) = (if Nat.gcd p1 p2 = 0 then 0 else 1, Nat.gcd p1 p2, 1) := by
      unfold mk3 actM
      simp only
      rw [Nat.gcd_one_right, Nat.div_one, Nat.div_one]
    rw [e]
    refine ⟨Bd_up (Bd_up hb1 (by rw [← hg]; exact hb1 19)) (Nat.one_lt_two_pow (by decide)), by rw [up_n (by decide), up_s], up_s _ _ _, ?_⟩
    rw [upi_s]
    by_cases z : Nat.gcd p1 p2 = 0
    · rw [if_pos z]; simp only; rw [if_pos z]; rfl
    · rw [if_neg z]; simp only; rw [if_neg z]; rfl
  · obtain ⟨hq2, hp2⟩ := hF.2.2.1 rfl
    obtain ⟨nv2, sd2, hE, hbr, hM⟩ := x_raise (d := d) (σ := σ) (g := g) (n := p2) (bt := if y < 0 then q1 else p1) (bb := if y < 0 then p1 else q1) h h1 h2 hp2 (by
      by_cases z : y < 0
      · rw [if_pos z, if_pos z]; exact Or.inl ⟨z, rfl, rfl⟩
      · rw [if_neg z, if_neg z]; exact Or.inr ⟨by omega, rfl, rfl⟩)
    obtain ⟨bt, hbt⟩ : ∃ bt, bt = if y < 0 then q1 else p1 := ⟨_, rfl⟩
    obtain ⟨bb, hbb⟩ : ∃ bb, bb = if y < 0 then p1 else q1 := ⟨_, rfl⟩
    have eA : actM 9 x p1 q1 y p2 q2 = (if x < 0 ∧ p2 % 2 = 1 then -1 else 1, bt ^ p2, bb ^ p2) := by rw [hbt, hbb]; rfl
    rw [← hbt, ← hbb] at hE hM
    have hcop : Nat.gcd bt bb = 1 := by
      rw [hbt, hbb]
      by_cases z : y < 0
      · rw [if_pos z, if_pos z, Nat.gcd_comm]; exact h1.2.2.2.1
      · rw [if_neg z, if_neg z]; exact h1.2.2.2.1
    have hcp : Nat.gcd (bt ^ p2) (bb ^ p2) = 1 := Nat.Coprime.pow p2 p2 hcop
    have e : mk3 (actM 9 x p1 q1 y p2 q2) = (if bt ^ p2 = 0 then 0 else if x < 0 ∧ p2 % 2 = 1 then -1 else 1, bt ^ p2, bb ^ p2) := by
      rw [eA]
      unfold mk3
      simp only
      rw [hcp, Nat.div_one, Nat.div_one]
    rw [e]
    have tl := m_lowest (d := d + 7) (σ := σ) (sd := sd) (g := g) (i := 10) N10 hb
    rw [e10, Nat.mod_eq_of_lt (by omega)] at tl
    have ent1 : ∀ {q : Rs}, Er (d + 9) 53 (227, [some (.ref 0), some (.int (nI 9))], [.long (lN p2), .ref 0], KS σ nv sd g) q → Er (d + 9) 53 (0, ent 53 [.ref 0, .int (nI 9)], [], KS σ nv sd g) q := fun hq => b53_0 (b53_216 k0 k6 N10.k tl hq)
    by_cases hc : bln (bt ^ p2) ≤ 256 ∧ bln (bb ^ p2) ≤ 256
    · rw [if_pos hc] at hE
      refine ⟨nv2, sd2, g, Or.inl ⟨ent1 (b53_227 k0 (by rw [lN_i]; exact hE) (b53_231 b53_327)), ?_⟩⟩
      have hM2 := hM hc
      have es : (if bt ^ p2 = 0 then (0 : Int) else if p2 % 2 = 0 then 1 else x) = if bt ^ p2 = 0 then 0 else if x < 0 ∧ p2 % 2 = 1 then -1 else 1 := by
        by_cases z : bt ^ p2 = 0
        · rw [if_pos z, if_pos z]
        · rw [if_neg z, if_neg z]
          by_cases w : p2 % 2 = 0
          · rw [if_pos w, if_neg (by omega)]
          · rw [if_neg w]
            have hp0 : 0 < p2 := by omega
            have hx0 : x ≠ 0 := by
              intro hx0
              have hp1 : p1 = 0 := by obtain ⟨_, _, _, _, c⟩ := h1; omega
              by_cases v : y < 0
              · exact hD (Or.inr ⟨rfl, hx0, v⟩)
              · rw [if_neg v] at hbt
                apply z
                rw [hbt, hp1, Nat.zero_pow hp0]
            by_cases v : x < 0
            · rw [if_pos ⟨v, by omega⟩]; omega
            · rw [if_neg (fun c => v c.1)]; omega
      have eq : (if bt ^ p2 = 0 then 1 else bb ^ p2) = bb ^ p2 := by
        by_cases z : bt ^ p2 = 0
        · rw [if_pos z]
          rw [z, Nat.gcd_zero_left] at hcp
          exact hcp.symm
        · rw [if_neg z]
      rw [es, eq] at hM2
      exact hM2
    · rw [if_neg hc] at hE
      exact ⟨nv2, sd2, g, Or.inr ⟨ent1 (b53_227x k0 (by decide) (by rw [lN_i]; exact hE)), hbr, hc⟩⟩
  · obtain ⟨hq2, hp2⟩ := hF.2.2.2 rfl
    have tk := r_take (d := d + 6) (σ := σ) (sd := sd) (g := g) (r := 5) ⟨by decide, by decide⟩ (by decide) hb
    have hM0 := mad_take (nv := nv) (sd := sd) (r := 5) (s := x) (p := p1) (q := q1) hb ⟨by decide, by decide⟩ e8 e9 e5
    obtain ⟨nv1, hnv1⟩ : ∃ nv1, nv1 = up (up nv 12 (nv (fr 5 0))) 13 (nv (fr 5 1)) := ⟨_, rfl⟩
    obtain ⟨sd1, hsd1⟩ : ∃ sd1, sd1 = upi sd 7 (sd 5) := ⟨_, rfl⟩
    rw [← hnv1, ← hsd1] at tk hM0
    have v10 : nv1 10 = p2 := by rw [hnv1, up_n (by decide), up_n (by decide), e10]
    have s6 : sd1 6 = iZ y := by rw [hsd1, upi_n (by decide), e6]
    obtain ⟨hb1, v12, v13, s7⟩ := hM0
    have tl := m_lowest (d := d + 7) (σ := σ) (nv := nv1) (sd := sd1) (g := g) (i := 10) N10 hb1
    rw [v10, Nat.mod_eq_of_lt (by omega)] at tl
    have g6 : gfi (KS σ nv1 sd1 g) (fr 0 4) 2 = iZ y := by rw [f04, KS_sd (by decide), s6]
    have ez : iZ y * (lN p2).toInt32 = iZ (y * p2) := by rw [lN_i, ← iZ_N, iZ_mul]
    have ent1 : ∀ {q : Rs}, Er (d + 9) 53 (266, [some (.ref 0), some (.int (nI 10))], [.long (lN p2), .int (iZ y), .ref 7], KS σ nv1 sd1 g) q → Er (d + 9) 53 (0, ent 53 [.ref 0, .int (nI 10)], [], KS σ nv sd g) q := by
      intro q hq
      refine b53_0 (b53_234 k0 k7 tk (b53_245 k0 k6 N10.k tl ?_))
      rw [g6]
      exact hq
    by_cases hx0 : x = 0
    · have hp1 : p1 = 0 := by obtain ⟨_, _, _, _, c⟩ := h1; omega
      have hq1 : q1 = 1 := by
        have := h1.2.2.2.1
        rw [hp1, Nat.gcd_zero_left] at this
        exact this
      have t := r_times0 (d := d + 7) (σ := σ) (nv := nv1) (g := g) (sd := sd1) (x := iZ y * (lN p2).toInt32) (by rw [s7, hx0]; rfl)
      refine ⟨nv1, sd1, g, Or.inl ⟨ent1 (b53_266 k7 t (b53_271 b53_327)), ?_⟩⟩
      have e : mk3 (actM 10 x p1 q1 y p2 q2) = (0, 0, 1) := by
        unfold mk3 actM
        simp only
        rw [hp1, hx0, hq1, Nat.zero_mul]
        have z0 : (if 0 < y * (p2 : Int) then 0 else 0) = 0 := by split <;> rfl
        rw [z0, if_pos rfl, Nat.zero_div, Nat.gcd_zero_left]
        have zp : 0 < (if 0 < y * (p2 : Int) then 1 else 1 * 2 ^ p2) := by
          split
          · exact Nat.one_pos
          · rw [Nat.one_mul]; exact Nat.two_pow_pos _
        rw [Nat.div_self zp]
      rw [e]
      exact ⟨hb1, by rw [v12, hp1], by rw [v13, hq1], by rw [s7, hx0]⟩
    · have hp1 : 0 < p1 := by obtain ⟨_, _, _, _, c⟩ := h1; omega
      have hq1 := h1.2.2.1
      have hg := h1.2.2.2.1
      have s7n : sd1 7 ≠ 0 := by
        rw [s7, iZ0]
        intro c
        exact hx0 ((iz_eq (by omega) (by omega) (by decide) (by decide)).mp c)
      by_cases hpos : 0 < y * (p2 : Int)
      · have hy1 : y = 1 := by
          rcases hy with rfl | rfl | rfl
          · omega
          · rfl
          · omega
        obtain ⟨t, m, htm⟩ := twos q1 hq1
        have ea : (y * (p2 : Int)).natAbs = p2 := by rw [hy1]; omega
        have tr := r_times (d := d + 2) (σ := σ) (nv := nv1) (sd := sd1) (g := g) (z := y * p2) (gr := 12) (sh := 13) (t := t) (m := m) (by rw [hy1]; omega) (by rw [hy1]; omega) s7n (Or.inl ⟨hpos, rfl, rfl⟩) hb1 (by rw [v13]; exact htm)
        rw [ea, v12, v13] at tr
        obtain ⟨e1, e2⟩ := two_eq (s := x) (n := p2) hg htm
        have e : mk3 (actM 10 x p1 q1 y p2 q2) = (x, p1 * 2 ^ (p2 - min p2 t), q1 / 2 ^ min p2 t) := by
          unfold mk3 actM
          simp only
          have : p1 * 2 ^ p2 ≠ 0 := Nat.pos_iff_ne_zero.mp (Nat.mul_pos hp1 (Nat.two_pow_pos _))
          rw [if_pos hpos, if_pos hpos, if_neg this, e1, e2]
        rw [e]
        have bl : bln (p1 * 2 ^ (p2 - min p2 t)) = bln p1 + (p2 - min p2 t) := bln_mul hp1
        by_cases hc : 256 < bln p1 + (p2 - min p2 t)
        · rw [if_pos hc] at tr
          refine ⟨nv1, sd1, g, Or.inr ⟨ent1 (b53_266x k7 (by decide) (by rw [ez]; exact tr)), hb1, ?_⟩⟩
          simp only
          rw [bl]
          omega
        · rw [if_neg hc] at tr
          refine ⟨_, sd1, g, Or.inl ⟨ent1 (b53_266 k7 (by rw [ez]; exact tr) (b53_271 b53_327)), Bd_up (Bd_up hb1 (Nat.lt_of_le_of_lt (Nat.div_le_self _ _) (lt640 h1.2.1))) ?_, by rw [up_s], by rw [up_n (by decide), up_s], s7⟩⟩
          have : p1 * 2 ^ (p2 - min p2 t) < Bp 8 := b256.mp (by rw [bl]; omega)
          exact lt640 this
      · obtain ⟨t, m, htm⟩ := twos p1 hp1
        have ea : (y * (p2 : Int)).natAbs = if 0 < p2 ∧ y ≠ 0 then p2 else 0 := by
          rcases hy with rfl | rfl | rfl
          · rw [if_neg (by simp)]; omega
          · rw [if_neg (by omega)]; omega
          · by_cases z : 0 < p2
            · rw [if_pos ⟨z, by decide⟩]; omega
            · rw [if_neg (by omega)]; omega
        have hnz : y = 0 → p2 = 0 := by
          intro z
          obtain ⟨_, _, _, _, c⟩ := h2
          omega
        have ea2 : (y * (p2 : Int)).natAbs = p2 := by
          rw [ea]
          by_cases z : 0 < p2 ∧ y ≠ 0
          · rw [if_pos z]
          · rw [if_neg z]
            by_cases w : y = 0
            · exact (hnz w).symm
            · omega
        have tr := r_times (d := d + 2) (σ := σ) (nv := nv1) (sd := sd1) (g := g) (z := y * p2) (gr := 13) (sh := 12) (t := t) (m := m) (by omega) (by omega) s7n (Or.inr ⟨by omega, rfl, rfl⟩) hb1 (by rw [v12]; exact htm)
        rw [ea2, v12, v13] at tr
        obtain ⟨e1, e2⟩ := two_eq (s := x) (n := p2) (by rw [Nat.gcd_comm]; exact hg) htm
        have e : mk3 (actM 10 x p1 q1 y p2 q2) = (x, p1 / 2 ^ min p2 t, q1 * 2 ^ (p2 - min p2 t)) := by
          unfold mk3 actM
          simp only
          rw [if_neg hpos, if_neg hpos, if_neg (Nat.pos_iff_ne_zero.mp hp1), Nat.gcd_comm p1, e1, e2]
        rw [e]
        have bl : bln (q1 * 2 ^ (p2 - min p2 t)) = bln q1 + (p2 - min p2 t) := bln_mul hq1
        by_cases hc : 256 < bln q1 + (p2 - min p2 t)
        · rw [if_pos hc] at tr
          refine ⟨nv1, sd1, g, Or.inr ⟨ent1 (b53_266x k7 (by decide) (by rw [ez]; exact tr)), hb1, ?_⟩⟩
          simp only
          rw [bl]
          omega
        · rw [if_neg hc] at tr
          refine ⟨_, sd1, g, Or.inl ⟨ent1 (b53_266 k7 (by rw [ez]; exact tr) (b53_271 b53_327)), Bd_up (Bd_up hb1 (Nat.lt_of_le_of_lt (Nat.div_le_self _ _) (lt640 h1.1))) ?_, by rw [up_n (by decide), up_s], by rw [up_s], s7⟩⟩
          have : q1 * 2 ^ (p2 - min p2 t) < Bp 8 := b256.mp (by rw [bl]; omega)
          exact lt640 this
  all_goals
    obtain ⟨nv1, hE, hr⟩ := x_compareRead (d := d + 5) (σ := σ) (g := g) h h1 h2
    have ho : -1000 ≤ ordZ x y (p1 * q2) (p2 * q1) ∧ ordZ x y (p1 * q2) (p2 * q1) ≤ 1000 := by
      have hcz : ∀ a b : Int, cz a b = 0 ∨ cz a b = -1 ∨ cz a b = 1 := by
        intro a b
        unfold cz
        split
        · exact Or.inl rfl
        · split
          · exact Or.inr (Or.inl rfl)
          · exact Or.inr (Or.inr rfl)
      unfold ordZ
      split
      · rcases hx with rfl | rfl | rfl <;> rcases hcz ((p1 * q2 : Nat) : Int) ((p2 * q1 : Nat) : Int) with c | c | c <;> rw [c] <;> decide
      · rcases hcz x y with c | c | c <;> rw [c] <;> decide
    have t5 := r_take (d := d + 6) (σ := σ) (nv := nv1) (sd := sd) (g := g) (r := 5) ⟨by decide, by decide⟩ (by decide) hr.1
    have t6 := r_take (d := d + 6) (σ := σ) (nv := nv1) (sd := sd) (g := g) (r := 6) ⟨by decide, by decide⟩ (by decide) hr.1
    have m5 := mad_take (nv := nv1) (sd := sd) (r := 5) (s := x) (p := p1) (q := q1) hr.1 ⟨by decide, by decide⟩ hr.2.1 hr.2.2.1 e5
    have m6 := mad_take (nv := nv1) (sd := sd) (r := 6) (s := y) (p := p2) (q := q2) hr.1 ⟨by decide, by decide⟩ hr.2.2.2.1 hr.2.2.2.2.1 e6
  · by_cases c : ordZ x y (p1 * q2) (p2 * q1) ≤ 0
    · have e : mk3 (actM 11 x p1 q1 y p2 q2) = (x, p1, q1) := by
        rw [show actM 11 x p1 q1 y p2 q2 = (x, p1, q1) from if_pos c, mk3_num h1]
      rw [e]
      refine ⟨_, _, g, Or.inl ⟨b53_0 (b53_274 k0 hE (b53_282 (fun z => ?_) (fun _ => b53_285 k0 (b53_296 k7 t5 (b53_299 b53_327))))), m5⟩⟩
      have := (iZ_lt (a := 0) (by decide) (by decide) (by omega) (by omega)).mp z
      omega
    · have e : mk3 (actM 11 x p1 q1 y p2 q2) = (y, p2, q2) := by
        rw [show actM 11 x p1 q1 y p2 q2 = (y, p2, q2) from if_neg c, mk3_num h2]
      rw [e]
      refine ⟨_, _, g, Or.inl ⟨b53_0 (b53_274 k0 hE (b53_282 (fun _ => b53_292 k0 (b53_296 k7 t6 (b53_299 b53_327))) (fun z => ?_))), m6⟩⟩
      exact absurd ((iZ_lt (a := 0) (by decide) (by decide) (by omega) (by omega)).mpr (by omega)) z
  · by_cases c : 0 ≤ ordZ x y (p1 * q2) (p2 * q1)
    · have e : mk3 (actM 12 x p1 q1 y p2 q2) = (x, p1, q1) := by
        by_cases w : 0 < ordZ x y (p1 * q2) (p2 * q1)
        · rw [show actM 12 x p1 q1 y p2 q2 = (x, p1, q1) from if_pos w, mk3_num h1]
        · obtain ⟨a1, a2, a3⟩ := ord_eq h1 h2 (by omega)
          rw [show actM 12 x p1 q1 y p2 q2 = (y, p2, q2) from if_neg w, mk3_num h2, a1, a2, a3]
      rw [e]
      refine ⟨_, _, g, Or.inl ⟨b53_0 (b53_302 k0 hE (b53_310 (fun z => ?_) (fun _ => b53_313 k0 (b53_324 k7 t5 b53_327)))), m5⟩⟩
      rw [iz_lt0 ho.1 ho.2] at z
      omega
    · have e : mk3 (actM 12 x p1 q1 y p2 q2) = (y, p2, q2) := by
        rw [show actM 12 x p1 q1 y p2 q2 = (y, p2, q2) from if_neg (by omega), mk3_num h2]
      rw [e]
      refine ⟨_, _, g, Or.inl ⟨b53_0 (b53_302 k0 hE (b53_310 (fun _ => b53_320 k0 (b53_324 k7 t6 b53_327)) (fun z => ?_))), m6⟩⟩
      rw [iz_lt0 ho.1 ho.2] at z
      omega
end
