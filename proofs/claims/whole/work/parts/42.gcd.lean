/-! CommonDivisor: the steps taken, and find -/
theorem sd_mod (U k x : Nat) : sd U k x % Bp k = U % Bp k := by
  have e : sd U k x = U % Bp k + Bp k * (x + U / Bp (k + 1) * 4294967296) := by
    unfold sd
    rw [Nat.mul_add, Bp_succ, Nat.mul_comm x, Nat.add_assoc]
    generalize U / (Bp k * 4294967296) = t
    generalize (4294967296 : Nat) = B
    generalize Bp k = P
    rw [show t * (P * B) = P * (t * B) by ac_rfl]
  rw [e, Nat.add_mul_mod_self_left, Nat.mod_mod]
theorem carryZ {p m s c A B f g Fl Nl P t : Int} (h : p + c * P = A * Fl + B * Nl) (hs : s = A * f + B * g + c) (hm : m = s - 4294967296 * t) : (p + m * P) + t * (P * 4294967296) = A * (Fl + f * P) + B * (Nl + g * P) := by
  subst hm hs
  grind
theorem rngZ {A B c : Int} {f g : Nat} (hA : sml A) (hB : sml B) (hs : (0 ≤ A ∧ B ≤ 0) ∨ (A ≤ 0 ∧ 0 ≤ B)) (hf : f < 4294967296) (hg : g < 4294967296) (hc : -2147483648 ≤ c ∧ c < 2147483648) : -2 ^ 63 ≤ A * f + B * g + c ∧ A * f + B * g + c < 2 ^ 63 ∧ -2147483648 ≤ (A * f + B * g + c) / 4294967296 ∧ (A * f + B * g + c) / 4294967296 < 2147483648 := by
  unfold sml at hA hB
  have m : ∀ (x : Int) (y : Nat), 0 ≤ x → x < 2147483648 → y < 4294967296 → 0 ≤ x * y ∧ x * y ≤ 2147483647 * 4294967295 := by
    intro x y h1 h2 h3
    exact ⟨Int.mul_nonneg h1 (Int.natCast_nonneg _), Int.mul_le_mul (by omega) (by omega) (Int.natCast_nonneg _) (by omega)⟩
  have n : ∀ (x : Int) (y : Nat), x ≤ 0 → -2147483648 < x → y < 4294967296 → x * y ≤ 0 ∧ -(2147483647 * 4294967295) ≤ x * y := by
    intro x y h1 h2 h3
    have := m (-x) y (by omega) (by omega) h3
    rw [Int.neg_mul] at this
    omega
  rcases hs with ⟨h1, h2⟩ | ⟨h1, h2⟩
  · have a1 := m A f h1 (by omega) hf
    have a2 := n B g h2 (by omega) hg
    omega
  · have a1 := n A f h1 (by omega) hf
    have a2 := m B g h2 (by omega) hg
    omega
theorem sgs.l {A B C D : Int} (h : sgs A B C D) : (0 ≤ A ∧ B ≤ 0) ∨ (A ≤ 0 ∧ 0 ≤ B) := by
  rcases h with ⟨a, b, c, d⟩ | ⟨a, b, c, d⟩
  · exact Or.inl ⟨a, b⟩
  · exact Or.inr ⟨a, b⟩
theorem sgs.r {A B C D : Int} (h : sgs A B C D) : (0 ≤ C ∧ D ≤ 0) ∨ (C ≤ 0 ∧ 0 ≤ D) := by
  rcases h with ⟨a, b, c, d⟩ | ⟨a, b, c, d⟩
  · exact Or.inr ⟨c, d⟩
  · exact Or.inl ⟨c, d⟩
/-- one digit of a sum of multiples -/
theorem digZ {P F N i : Nat} {A B c : Int} (hA : sml A) (hB : sml B) (hs : (0 ≤ A ∧ B ≤ 0) ∨ (A ≤ 0 ∧ 0 ≤ B)) (hc : -2147483648 ≤ c ∧ c < 2147483648) (hP : P / Bp i = F / Bp i) (h : ((P % Bp i : Nat) : Int) + c * (Bp i : Nat) = A * ((F % Bp i : Nat) : Int) + B * ((N % Bp i : Nat) : Int)) :
    ∃ m : Nat, ((A * (dg F i : Nat) + B * (dg N i : Nat) + c) % 4294967296).toNat = m ∧ m < 4294967296 ∧ sd P i m / Bp (i + 1) = F / Bp (i + 1) ∧ ((sd P i m % Bp (i + 1) : Nat) : Int) + (A * (dg F i : Nat) + B * (dg N i : Nat) + c) / 4294967296 * (Bp (i + 1) : Nat) = A * ((F % Bp (i + 1) : Nat) : Int) + B * ((N % Bp (i + 1) : Nat) : Int) := by
  obtain ⟨s, hs2⟩ : ∃ s : Int, s = A * (dg F i : Nat) + B * (dg N i : Nat) + c := ⟨_, rfl⟩
  rw [← hs2]
  have hm : (s % 4294967296).toNat < 4294967296 := by omega
  refine ⟨(s % 4294967296).toNat, rfl, hm, ?_, ?_⟩
  · rw [sd_div (Nat.lt_succ_self i) hm, Bp_succ, ← Nat.div_div_eq_div_mul, ← Nat.div_div_eq_div_mul, hP]
  · rw [dg_split (sd P i _) i, sd_mod, sd_dg _ _ hm, if_pos rfl, dg_split F i, dg_split N i, Bp_succ]
    have := carryZ (m := ((s % 4294967296).toNat : Int)) (t := s / 4294967296) (f := ((dg F i : Nat) : Int)) (g := ((dg N i : Nat) : Int)) h hs2 (by omega)
    rw [Int.natCast_add, Int.natCast_mul, Int.natCast_add, Int.natCast_mul, Int.natCast_add, Int.natCast_mul, Int.natCast_mul]
    exact this
theorem rN_fl (σ : St) (i : Nat) (f : Nat → Int64) (n : Int32) : gfl (rN σ i f n) = gfl σ := rfl
theorem n_stepAs {d : Nat} {σ : St} {nv : Nat → Nat} {A B C D : Int} {X Y : Nat} (hb : Bd nv) (hNF : nv 20 ≤ nv 19) (h : FI (nv 19) (nv 20) A B C D X Y) :
    Er (d + 2) 3 (0, ent 3 [.ref 2], [], NS (CS σ A B C D) nv) (.inl none, NS (CS σ A B C D) (up (up nv 19 X) 20 Y), 0) := by
  obtain ⟨hsg, hA, hB, hC, hD, hX, hY, hg, hYX, hXF, hp, hpr⟩ := h
  have t19 := NS_Nt (σ := CS σ A B C D) N19 hb
  have t20 := NS_Nt (σ := CS σ A B C D) N20 hb
  obtain ⟨τ, hτ⟩ : ∃ τ, τ = NS (CS σ A B C D) nv := ⟨_, rfl⟩
  have ga : gfl τ 2 3 = lZ A := by rw [hτ]; exact CS_a σ A B C D
  have gb : gfl τ 2 4 = lZ B := by rw [hτ]; exact CS_b σ A B C D
  have gc : gfl τ 2 5 = lZ C := by rw [hτ]; exact CS_c σ A B C D
  have gd : gfl τ 2 6 = lZ D := by rw [hτ]; exact CS_d σ A B C D
  have hres : NS (CS σ A B C D) (up (up nv 19 X) 20 Y) = sN (sN τ 19 X) 20 Y := by
    rw [hτ, NS_sN N19, NS_sN N20]
  rw [hres]
  rw [← hτ] at t19 t20 ⊢
  obtain ⟨F, hF⟩ : ∃ F, F = nv 19 := ⟨_, rfl⟩
  obtain ⟨N, hN⟩ : ∃ N, N = nv 20 := ⟨_, rfl⟩
  rw [← hF] at t19 hX hY hNF hXF
  rw [← hN] at t20 hX hY hNF
  have hn := n20 t19.2.2
  have hFn := nd_self F
  have n1920 : (20 : Nat) ≠ 19 := by decide
  have loop : ∀ n i P R (c e : Int), i + n = nd F → P / Bp i = F / Bp i → R / Bp i = N / Bp i → (-2147483648 ≤ c ∧ c < 2147483648) → (-2147483648 ≤ e ∧ e < 2147483648) →
      ((P % Bp i : Nat) : Int) + c * (Bp i : Nat) = A * ((F % Bp i : Nat) : Int) + B * ((N % Bp i : Nat) : Int) → ((R % Bp i : Nat) : Int) + e * (Bp i : Nat) = C * ((F % Bp i : Nat) : Int) + D * ((N % Bp i : Nat) : Int) → ∀ o7 o8 o9 o10,
      Er (d + 2) 3 (16, [some (.ref 2), some (.long (lZ c)), none, some (.long (lZ e)), none, some (.int (nI (nd F))), some (.int (nI i)), o7, o8, o9, o10], [], rN (rN τ 19 (dgs P) (nI (nd F))) 20 (dgs R) (nI (nd N))) (.inl none, sN (sN τ 19 X) 20 Y, 0) := by
    intro n
    induction n with
    | zero =>
      intro i P R c e hi hP hR hc he h1 h2 o7 o8 o9 o10
      rw [Nat.add_zero] at hi
      subst hi
      have hNn : N < Bp (nd F) := by omega
      rw [Bp_mod hFn, Bp_mod hNn] at h1 h2
      rw [div_Bp_lt hFn] at hP
      rw [div_Bp_lt hNn] at hR
      have fin : ∀ (P Z : Nat) (c : Int), P / Bp (nd F) = 0 → Z < Bp (nd F) → ((P % Bp (nd F) : Nat) : Int) + c * (Bp (nd F) : Nat) = Z → P = Z := by
        intro P Z c h0 hZ hE
        have hs := mod_split P (nd F)
        rw [h0] at hs
        have hl := mod_lt_Bp P (nd F)
        have hc : c = 0 := by
          rcases Int.lt_trichotomy c 0 with g | g | g
          · have : c * (Bp (nd F) : Int) ≤ (-1) * (Bp (nd F) : Int) := Int.mul_le_mul_of_nonneg_right (by omega) (Int.natCast_nonneg _)
            omega
          · exact g
          · have : 1 * (Bp (nd F) : Int) ≤ c * (Bp (nd F) : Int) := Int.mul_le_mul_of_nonneg_right (by omega) (Int.natCast_nonneg _)
            omega
        subst hc
        omega
      have hPX : P = X := fin P X c hP (by omega) (by rw [h1, hX])
      have hRY : R = Y := fin R Y e hR (by omega) (by rw [h2, hY])
      subst hPX hRY
      refine b3_16 (fun _ => ?_) (fun g => absurd (Int32.le_refl _) g)
      rw [rN_comm (i := 19) (k := 20) n1920]
      refine b3_143 k2 N19.k (mes (i := 19) (e := nd F) N19 hn (by omega)) ?_
      unfold sN
      rw [rN_comm (i := 20) (k := 19) n1920.symm]
      exact b3_152 k2 N20.k (mes (i := 20) (e := nd F) N20 hn (by omega)) b3_161
    | succ n ih =>
      intro i P R c e hi hP hR hc he h1 h2 o7 o8 o9 o10
      refine b3_16 (fun g => absurd g (nI_ge (by omega) (by omega))) (fun _ => ?_)
      have dP : dg P i = dg F i := by rw [dg_Bp, dg_Bp, hP]
      have dR : dg R i = dg N i := by rw [dg_Bp, dg_Bp, hR]
      obtain ⟨m1, e1, l1, v1, w1⟩ := digZ hA hB hsg.l hc hP h1
      have q2 : ((R % Bp i : Nat) : Int) + e * (Bp i : Nat) = D * ((N % Bp i : Nat) : Int) + C * ((F % Bp i : Nat) : Int) := by omega
      obtain ⟨m2, e2, l2, v2, w2⟩ := digZ hD hC (hsg.r.symm.imp And.symm And.symm) he hR q2
      have r1 := rngZ hA hB hsg.l (dg_lt F i) (dg_lt N i) hc
      have r2 := rngZ hC hD hsg.r (dg_lt F i) (dg_lt N i) he
      have sw : D * ((dg N i : Nat) : Int) + C * ((dg F i : Nat) : Int) + e = C * ((dg F i : Nat) : Int) + D * ((dg N i : Nat) : Int) + e := by omega
      rw [sw] at e2 w2
      refine b3_23 k2 N19.k (N19.w (by omega)) N20.k (N20.w (by omega)) ?_
      have a19 : gal (rN (rN τ 19 (dgs P) (nI (nd F))) 20 (dgs R) (nI (nd N))) (fr (fr 2 0) 0) (nI i).toNatClampNeg = lZ ((dg F i : Nat) : Int) := by
        rw [lZ_N, ← dP]
        exact rd N19 (by rw [rN_of (by decide)]; exact rN_f _ _ _ _) (by omega)
      have a20 : gal (rN (rN τ 19 (dgs P) (nI (nd F))) 20 (dgs R) (nI (nd N))) (fr (fr 2 1) 0) (nI i).toNatClampNeg = lZ ((dg N i : Nat) : Int) := by
        rw [lZ_N, ← dR]
        exact rd N20 (rN_f _ _ _ _) (by omega)
      rw [rN_fl, rN_fl, a19, a20, ga, gb, gc, gd, lZ_mul, lZ_mul, lZ_mul, lZ_mul, lZ_add, lZ_add, lZ_add, lZ_add, mZ, mZ, shrZ r1.1 r1.2.1, shrZ r2.1 r2.2.1, e1, e2, nI_1]
      have st : sal (sal (rN (rN τ 19 (dgs P) (nI (nd F))) 20 (dgs R) (nI (nd N))) (fr (fr 2 0) 0) (nI i).toNatClampNeg (lN m1)) (fr (fr 2 1) 0) (nI i).toNatClampNeg (lN m2) = rN (rN τ 19 (dgs (sd P i m1)) (nI (nd F))) 20 (dgs (sd R i m2)) (nI (nd N)) := by
        rw [rN_comm (i := 19) (k := 20) n1920]
        have w1 := wr (σ := rN τ 20 (dgs R) (nI (nd N))) (i := 19) (U := P) (j := i) (x := m1) (n := nI (nd F)) N19 (by omega) l1
        have f0 : fr (fr 2 0) 0 = fr 19 0 := rfl
        have f1 : fr (fr 2 1) 0 = fr 20 0 := rfl
        rw [f0, f1, w1, rN_comm (i := 20) (k := 19) n1920.symm]
        exact wr N20 (by omega) l2
      rw [st]
      exact ih (i + 1) _ _ _ _ (by omega) v1 v2 ⟨r1.2.2.1, r1.2.2.2⟩ ⟨r2.2.2.1, r2.2.2.2⟩ w1 (by rw [w2]; omega) _ _ _ _
  refine b3_0 k2 N19.k ?_
  have h0 := loop (nd F) 0 F N 0 0 (by omega) rfl rfl (by omega) (by omega) (by rw [Bp_0, Nat.mod_one, Nat.mod_one]; omega) (by rw [Bp_0, Nat.mod_one, Nat.mod_one]; omega) none none none none
  rw [t19.rN, t20.rN] at h0
  have g19 : gfi τ (fr 2 0) 1 = nI (nd F) := t19.2.1
  rw [g19]
  exact h0
/-- the long fields of another -/
def SL (σ : St) (g : Nat → Nat → Int64) : St := (σ.1, g, σ.2.2)
theorem SL_CS (σ : St) (A B C D : Int) : CS σ A B C D = SL σ (gfl (CS σ A B C D)) := rfl
theorem SL_self (σ : St) : SL σ (gfl σ) = σ := rfl
theorem n_find {d i k : Nat} {σ : St} {nv : Nat → Nat} (hi : NI i) (hk : NI k) (hi19 : i < 19) (hk19 : k < 19) (hb : Bd nv) (h1 : nv i < 2 ^ 600) (h2 : nv k < 2 ^ 600) :
    ∃ nv2 g, Er (d + 5) 0 (0, ent 0 [.ref 2, .ref i, .ref k], [], NS σ nv) (.inl none, NS (SL σ g) nv2, 0) ∧ nv2 19 = Nat.gcd (nv i) (nv k) ∧ Bd nv2 ∧ ∀ j, j < 19 → nv2 j = nv j := by
  have tail : ∀ (g : Nat → Nat → Int64) nv2 x3, Bd nv2 → nv2 19 < 2 ^ 600 → bln (nv2 20) ≤ 62 → Nat.gcd (nv2 19) (nv2 20) = Nat.gcd (nv i) (nv k) → (∀ j, j < 19 → nv2 j = nv j) →
      ∃ nv3 g2, Er (d + 5) 0 (61, [some (.ref 2), some (.ref i), some (.ref k), some (.int x3)], [], NS (SL σ g) nv2) (.inl none, NS (SL σ g2) nv3, 0) ∧ nv3 19 = Nat.gcd (nv i) (nv k) ∧ Bd nv3 ∧ ∀ j, j < 19 → nv3 j = nv j := by
    intro g nv2 x3 hb2 hl h62 hg hfr
    by_cases h0 : nv2 20 = 0
    · refine ⟨nv2, g, ?_, ?_, hb2, hfr⟩
      · refine b0_61 k2 N20.k (n_isZero (i := 20) N20 hb2) (b0_68 (fun q => ?_) (fun _ => b0_71))
        rw [if_pos h0] at q
        exact absurd q (by decide)
      · rw [← hg, h0, Nat.gcd_zero_right]
    · rw [bln_le] at h62
      have fin : ∀ nv4, Bd nv4 → nv4 19 < 2 ^ 62 → nv4 20 < 2 ^ 62 → Nat.gcd (nv4 19) (nv4 20) = Nat.gcd (nv i) (nv k) → (∀ j, j < 19 → nv4 j = nv j) → ∃ nv3 g2, Er (d + 5) 0 (88, [some (.ref 2), some (.ref i), some (.ref k), some (.int x3)], [], NS (SL σ g) nv4) (.inl none, NS (SL σ g2) nv3, 0) ∧ nv3 19 = Nat.gcd (nv i) (nv k) ∧ Bd nv3 ∧ ∀ j, j < 19 → nv3 j = nv j := by
        intro nv4 hb4 hl4 hle4 hg4 hfr4
        have hgl : Nat.gcd (nv4 19) (nv4 20) < 2 ^ 64 := by
          rcases Nat.eq_zero_or_pos (nv4 19) with z | z
          · rw [z, Nat.gcd_zero_left]; omega
          · exact Nat.lt_of_le_of_lt (Nat.gcd_le_left _ z) (by omega)
        refine ⟨up nv4 19 (Nat.gcd (nv4 19) (nv4 20)), g, ?_, by rw [up_s, hg4], Bd_up hb4 (Nat.lt_trans hgl (Nat.pow_lt_pow_right (by decide) (by decide))), ?_⟩
        · refine b0_88 k2 N19.k (n_lowest (i := 19) N19 hb4) ?_
          refine b0_99 k2 N20.k (n_lowest (i := 20) N20 hb4) ?_
          rw [Nat.mod_eq_of_lt (show nv4 19 < 2 ^ 64 by omega), Nat.mod_eq_of_lt (show nv4 20 < 2 ^ 64 by omega)]
          refine b0_106 (c_ofLongs hle4 hl4) ?_
          exact b0_109 N19.k (n_takeJ (i := 19) N19 hb4 hgl) b0_112
        · intro j hj
          rw [up_n (by omega)]
          exact hfr4 j hj
      have pre : ∀ {q : Rs}, (nv2 19 < 2 ^ 62 → Er (d + 5) 0 (88, [some (.ref 2), some (.ref i), some (.ref k), some (.int x3)], [], NS (SL σ g) nv2) q) → (¬ nv2 19 < 2 ^ 62 → Er (d + 5) 0 (84, [some (.ref 2), some (.ref i), some (.ref k), some (.int x3)], [], NS (SL σ g) nv2) q) → Er (d + 5) 0 (61, [some (.ref 2), some (.ref i), some (.ref k), some (.int x3)], [], NS (SL σ g) nv2) q := by
        intro q ha hbq
        have hn : bln (nv2 19) ≤ 600 := by rw [bln_le]; exact hl
        refine b0_61 k2 N20.k (n_isZero (i := 20) N20 hb2) (b0_68 (fun _ => ?_) (fun q => ?_))
        · refine b0_72 k2 N19.k (n_len (i := 19) N19 hb2) (b0_79 (fun q => ?_) (fun q => ?_))
          · rw [show (62 : Int32) = nI 62 from rfl, nI_leI (by omega) (by decide), bln_le] at q
            exact ha q
          · rw [show (62 : Int32) = nI 62 from rfl, nI_leI (by omega) (by decide), bln_le] at q
            exact hbq q
        · rw [if_neg h0] at q
          exact absurd rfl q
      by_cases hsm : nv2 19 < 2 ^ 62
      · obtain ⟨nv3, g2, hE, rest⟩ := fin nv2 hb2 hsm h62 hg hfr
        exact ⟨nv3, g2, pre (fun _ => hE) (fun q => absurd hsm q), rest⟩
      · obtain ⟨nv4, hE4, a19, a20, hb4, hfr4⟩ := n_stepOnce (d := d) (σ := SL σ g) hb2 hl
        have hm := Nat.mod_lt (nv2 19) (Nat.pos_of_ne_zero h0)
        obtain ⟨nv3, g2, hE, rest⟩ := fin nv4 hb4 (by omega) (by omega) (by rw [a19, a20, gcd_step]; exact hg) (fun j hj => by rw [hfr4 j hj, hfr j hj])
        exact ⟨nv3, g2, pre (fun q => absurd q hsm) (fun _ => b0_84 k2 hE4 hE), rest⟩
  have loop : ∀ e s (g : Nat → Nat → Int64) nv2, Bd nv2 → nv2 19 < 2 ^ 600 → nv2 20 ≤ nv2 19 → nv2 19 * nv2 20 < 2 ^ e → s + e ≤ 1999 → Nat.gcd (nv2 19) (nv2 20) = Nat.gcd (nv i) (nv k) → (∀ j, j < 19 → nv2 j = nv j) →
      ∃ nv3 g2, Er (d + 5) 0 (18, [some (.ref 2), some (.ref i), some (.ref k), some (.int (nI s))], [], NS (SL σ g) nv2) (.inl none, NS (SL σ g2) nv3, 0) ∧ nv3 19 = Nat.gcd (nv i) (nv k) ∧ Bd nv3 ∧ ∀ j, j < 19 → nv3 j = nv j := by
    intro e
    induction e with
    | zero =>
      intro s g nv2 hb2 hl hle hpr hs hg hfr
      have h0 : nv2 20 = 0 := by
        rcases Nat.eq_zero_or_pos (nv2 20) with h | h
        · exact h
        · have := Nat.mul_pos (show 0 < nv2 19 by omega) h
          omega
      obtain ⟨nv3, g2, hE, rest⟩ := tail g nv2 (nI s) hb2 hl (by rw [h0]; decide) hg hfr
      refine ⟨nv3, g2, ?_, rest⟩
      refine b0_18 (fun q => absurd q (nI_ge (b := 2000) (by omega) (by decide))) (fun _ => ?_)
      refine b0_25 k2 N20.k (n_len (i := 20) N20 hb2) (b0_32 (fun _ => hE) (fun q => ?_))
      rw [h0] at q
      exact absurd (by decide) q
    | succ e ih =>
      intro s g nv2 hb2 hl hle hpr hs hg hfr
      have hn : bln (nv2 20) ≤ 600 := by rw [bln_le]; omega
      by_cases h62 : bln (nv2 20) ≤ 62
      · obtain ⟨nv3, g2, hE, rest⟩ := tail g nv2 (nI s) hb2 hl h62 hg hfr
        refine ⟨nv3, g2, ?_, rest⟩
        refine b0_18 (fun q => absurd q (nI_ge (b := 2000) (by omega) (by decide))) (fun _ => ?_)
        refine b0_25 k2 N20.k (n_len (i := 20) N20 hb2) (b0_32 (fun _ => hE) (fun q => ?_))
        exact absurd ((nI_leI (b := 62) (by omega) (by decide)).mpr h62) q
      · have hpos : 0 < nv2 20 := bln_pos.mp (by omega)
        rw [Nat.pow_succ] at hpr
        obtain ⟨r, A, B, C, D, hE, hr⟩ := n_foresee (d := d + 1) (σ := SL σ g) hb2 (by omega) hl
        have start : ∀ {q : Rs}, Er (d + 5) 0 (41, [some (.ref 2), some (.ref i), some (.ref k), some (.int (nI s))], [.int r], NS (CS (SL σ g) A B C D) nv2) q → Er (d + 5) 0 (18, [some (.ref 2), some (.ref i), some (.ref k), some (.int (nI s))], [], NS (SL σ g) nv2) q := by
          intro q hq
          refine b0_18 (fun q => absurd q (nI_ge (b := 2000) (by omega) (by decide))) (fun _ => ?_)
          refine b0_25 k2 N20.k (n_len (i := 20) N20 hb2) (b0_32 (fun q => ?_) (fun _ => ?_))
          · exact absurd ((nI_leI (b := 62) (by omega) (by decide)).mp q) h62
          · exact b0_37 k2 hE hq
        have eS : CS (SL σ g) A B C D = SL σ (gfl (CS (SL σ g) A B C D)) := rfl
        rcases hr with hr | ⟨hr, hge, X, Y, hFI, hXY⟩
        · subst hr
          rw [eS] at start
          obtain ⟨nv4, hE4, a19, a20, hb4, hfr4⟩ := n_stepOnce (d := d) (σ := SL σ (gfl (CS (SL σ g) A B C D))) hb2 hl
          have hm := Nat.mod_lt (nv2 19) hpos
          have hhp := half_prod hle hpos
          obtain ⟨nv3, g2, hE3, rest⟩ := ih (s + 1) (gfl (CS (SL σ g) A B C D)) nv4 hb4 (by omega) (by omega) (by rw [a19, a20]; omega) (by omega) (by rw [a19, a20, gcd_step]; exact hg) (fun j hj => by rw [hfr4 j hj, hfr j hj])
          refine ⟨nv3, g2, start (b0_41 (fun _ => b0_51 k2 hE4 (b0_55 ?_)) (fun q => absurd rfl q)), rest⟩
          rw [nI_1]
          exact hE3
        · subst hr
          have hstep := n_stepAs (d := d + 2) (σ := SL σ g) hb2 hge hFI
          obtain ⟨_, _, _, _, _, _, _, hgg, hYX, hXF, _, _⟩ := hFI
          rw [eS] at start hstep
          have u19 : up (up nv2 19 X) 20 Y 19 = X := by rw [up_n (by decide), up_s]
          have u20 : up (up nv2 19 X) 20 Y 20 = Y := up_s _ _ _
          have hbX : X < 2 ^ 640 := Nat.lt_of_le_of_lt hXF (hb2 19)
          obtain ⟨nv3, g2, hE3, rest⟩ := ih (s + 1) (gfl (CS (SL σ g) A B C D)) (up (up nv2 19 X) 20 Y) (Bd_up (Bd_up hb2 hbX) (by omega)) (by rw [u19]; omega) (by rw [u19, u20]; exact hYX) (by rw [u19, u20]; omega) (by omega) (by rw [u19, u20, hgg]; exact hg) (fun j hj => by rw [up_n (by omega), up_n (by omega)]; exact hfr j hj)
          refine ⟨nv3, g2, start (b0_41 (fun q => absurd q (by decide)) (fun _ => b0_44 k2 hstep (b0_48 (b0_55 ?_)))), rest⟩
          rw [nI_1]
          exact hE3
  have hb2 := Bd_up (i := 19) hb (hb i)
  have hb3 := Bd_up (i := 20) hb2 (hb2 k)
  have ek : up nv 19 (nv i) k = nv k := up_n (by omega)
  rw [ek] at hb3
  have u19 : up (up nv 19 (nv i)) 20 (nv k) 19 = nv i := by rw [up_n (by decide), up_s]
  have u20 : up (up nv 19 (nv i)) 20 (nv k) 20 = nv k := up_s _ _ _
  have ufr : ∀ j, j < 19 → up (up nv 19 (nv i)) 20 (nv k) j = nv j := fun j hj => by rw [up_n (by omega), up_n (by omega)]
  have begin1 : ∀ {q : Rs}, Er (d + 5) 0 (18, [some (.ref 2), some (.ref i), some (.ref k), some (.int (nI 0))], [], NS (SL σ (gfl σ)) (up (up nv 19 (nv i)) 20 (nv k))) q → Er (d + 5) 0 (0, ent 0 [.ref 2, .ref i, .ref k], [], NS σ nv) q := by
    intro q hq
    refine b0_0 k2 N19.k (n_takeN (i := 19) N19 hi hb) ?_
    have h := n_takeN (d := d + 3) (i := 20) (σ := σ) N20 hk hb2
    rw [ek] at h
    exact b0_8 k2 N20.k h (b0_16 hq)
  have hprod : ∀ a b : Nat, a < 2 ^ 600 → b < 2 ^ 600 → a * b < 2 ^ 1200 := by
    intro a b ha hb
    rw [show (2 : Nat) ^ 1200 = 2 ^ 600 * 2 ^ 600 from by rw [← Nat.pow_add]]
    exact Nat.mul_lt_mul_of_lt_of_le ha (Nat.le_of_lt hb) (Nat.two_pow_pos _)
  by_cases hle : nv k ≤ nv i
  · obtain ⟨nv3, g2, hE, rest⟩ := loop 1200 0 (gfl σ) (up (up nv 19 (nv i)) 20 (nv k)) hb3 (by rw [u19]; exact h1) (by rw [u19, u20]; exact hle) (by rw [u19, u20]; exact hprod _ _ h1 h2) (by decide) (by rw [u19, u20]) ufr
    exact ⟨nv3, g2, begin1 hE, rest⟩
  · -- the first step turns the two round
    have hnk : bln (nv k) ≤ 600 := by rw [bln_le]; exact h2
    by_cases h62 : bln (nv k) ≤ 62
    · obtain ⟨nv3, g2, hE, rest⟩ := tail (gfl σ) (up (up nv 19 (nv i)) 20 (nv k)) (nI 0) hb3 (by rw [u19]; exact h1) (by rw [u20]; exact h62) (by rw [u19, u20]) ufr
      refine ⟨nv3, g2, begin1 ?_, rest⟩
      refine b0_18 (fun q => absurd q (by decide)) (fun _ => ?_)
      refine b0_25 k2 N20.k (n_len (i := 20) N20 hb3) (b0_32 (fun _ => hE) (fun q => ?_))
      rw [u20] at q
      exact absurd ((nI_leI (b := 62) (by omega) (by decide)).mpr h62) q
    · obtain ⟨r, A, B, C, D, hE, hr⟩ := n_foresee (d := d + 1) (σ := SL σ (gfl σ)) hb3 (by rw [u20]; omega) (by rw [u19]; exact h1)
      rw [u19, u20] at hr
      rcases hr with hr | ⟨hr, hge, _⟩
      · subst hr
        have eS : CS (SL σ (gfl σ)) A B C D = SL σ (gfl (CS (SL σ (gfl σ)) A B C D)) := rfl
        rw [eS] at hE
        obtain ⟨nv4, hE4, a19, a20, hb4, hfr4⟩ := n_stepOnce (d := d) (σ := SL σ (gfl (CS (SL σ (gfl σ)) A B C D))) hb3 (by rw [u19]; exact h1)
        rw [u20] at a19
        rw [u19, u20, Nat.mod_eq_of_lt (by omega)] at a20
        obtain ⟨nv3, g2, hE3, rest⟩ := loop 1200 1 (gfl (CS (SL σ (gfl σ)) A B C D)) nv4 hb4 (by rw [a19]; exact h2) (by rw [a19, a20]; omega) (by rw [a19, a20]; exact hprod _ _ h2 h1) (by decide) (by rw [a19, a20, Nat.gcd_comm]) (fun j hj => by rw [hfr4 j hj, ufr j hj])
        refine ⟨nv3, g2, begin1 ?_, rest⟩
        refine b0_18 (fun q => absurd q (by decide)) (fun _ => ?_)
        refine b0_25 k2 N20.k (n_len (i := 20) N20 hb3) (b0_32 (fun q => ?_) (fun _ => ?_))
        · rw [u20] at q
          exact absurd ((nI_leI (b := 62) (by omega) (by decide)).mp q) h62
        · exact b0_37 k2 hE (b0_41 (fun _ => b0_51 k2 hE4 (b0_55 hE3)) (fun q => absurd rfl q))
      · exact absurd hge hle
