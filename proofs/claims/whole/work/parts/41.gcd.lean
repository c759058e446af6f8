/-! CommonDivisor: steps foreseen, and all -/
def FI (F N : Nat) (A B C D : Int) (X Y : Nat) : Prop := sgs A B C D ∧ sml A ∧ sml B ∧ sml C ∧ sml D ∧ (X : Int) = A * F + B * N ∧ (Y : Int) = C * F + D * N ∧ Nat.gcd X Y = Nat.gcd F N ∧ Y ≤ X ∧ X ≤ F ∧ X * Y ≤ F * N ∧ (B = 0 ∨ 2 * (X * Y) ≤ F * N)
theorem n_foresee {d : Nat} {σ : St} {nv : Nat → Nat} (hb : Bd nv) (h62 : 62 < bln (nv 20)) (hlt : nv 19 < 2 ^ 600) :
    ∃ (r : Int32) (A B C D : Int), Er (d + 3) 1 (0, ent 1 [.ref 2], [], NS σ nv) (.inl (some (.int r)), NS (CS σ A B C D) nv, 0) ∧ (r = 0 ∨ (r = 1 ∧ nv 20 ≤ nv 19 ∧ ∃ X Y : Nat, FI (nv 19) (nv 20) A B C D X Y ∧ 2 * (X * Y) ≤ nv 19 * nv 20)) := by
  have e0 : sfl (sfl (sfl (sfl (NS σ nv) 2 3 (1 : Int64)) 2 4 (0 : Int64)) 2 5 (0 : Int64)) 2 6 (1 : Int64) = NS (CS σ 1 0 0 1) nv := rfl
  have f0 : fr 2 0 = 19 := rfl
  have f1 : fr 2 1 = 20 := rfl
  by_cases hge : nv 20 ≤ nv 19
  · obtain ⟨F, hF⟩ : ∃ F, F = nv 19 := ⟨_, rfl⟩
    obtain ⟨N, hN⟩ : ∃ N, N = nv 20 := ⟨_, rfl⟩
    rw [← hF, ← hN] at hge
    rw [← hN] at h62
    have hbF : bln N ≤ bln F := by
      rw [bln_le]
      exact Nat.lt_of_le_of_lt hge bln_lt
    have hbF2 : bln F ≤ 600 := by rw [bln_le, hF]; exact hlt
    obtain ⟨k, hk⟩ : ∃ k, k = bln F - 62 := ⟨_, rfl⟩
    have hF62 : F / 2 ^ k < 2 ^ 62 := by
      rw [Nat.div_lt_iff_lt_mul (Nat.two_pow_pos k), ← Nat.pow_add, show 62 + k = bln F by omega]
      exact bln_lt
    have hNF : N / 2 ^ k ≤ F / 2 ^ k := Nat.div_le_div_right hge
    have hTp : (0 : Int) < ((2 ^ k : Nat) : Int) := by exact_mod_cast Nat.two_pow_pos k
    -- the end
    have fin : ∀ (A B C D : Int) (X Y : Nat), FI F N A B C D X Y → ∀ x2 x4 x6 o7 o8 o9 o10, ∃ (r : Int32) (A2 B2 C2 D2 : Int), Er (d + 3) 1 (170, [some (.ref 2), some (.int (nI k)), some (.long x2), none, some (.long x4), none, some (.int x6), o7, o8, o9, o10], [], NS (CS σ A B C D) nv) (.inl (some (.int r)), NS (CS σ A2 B2 C2 D2) nv, 0) ∧ (r = 0 ∨ (r = 1 ∧ ∃ X Y : Nat, FI F N A2 B2 C2 D2 X Y ∧ 2 * (X * Y) ≤ F * N)) := by
      intro A B C D X Y h x2 x4 x6 o7 o8 o9 o10
      have h2 := h
      obtain ⟨hs, hA, hB, hC, hD, hX, hY, hg, hYX, hXF, hp, hpr⟩ := h2
      have eB : gfl (NS (CS σ A B C D) nv) 2 4 = lZ B := CS_b σ A B C D
      by_cases hB0 : B = 0
      · refine ⟨0, A, B, C, D, ?_, Or.inl rfl⟩
        exact b1_170 k2 (fun _ => b1_183 (b1_184 rfl)) (fun g => absurd (by rw [eB, hB0]; rfl) g)
      · refine ⟨1, A, B, C, D, ?_, Or.inr ⟨rfl, X, Y, h, ?_⟩⟩
        · refine b1_170 k2 (fun g => ?_) (fun _ => b1_179 (b1_184 rfl))
          rw [eB] at g
          have : B = 0 := (lZ_eq (b := 0) (by unfold sml at hB; omega) (by unfold sml at hB; omega) (by decide) (by decide)).mp g
          exact absurd this hB0
        · rcases hpr with h | h
          · exact absurd h hB0
          · exact h
    have loop : ∀ n s (A B C D : Int) (X Y : Nat) (x y : Int), s + n = 62 → FI F N A B C D X Y → x = A * ((F / 2 ^ k : Nat) : Int) + B * ((N / 2 ^ k : Nat) : Int) → y = C * ((F / 2 ^ k : Nat) : Int) + D * ((N / 2 ^ k : Nat) : Int) → 0 ≤ y → y ≤ x → x < 2 ^ 62 → 0 ≤ x + A → 0 ≤ x + B →
        ∀ o7 o8 o9 o10, ∃ (r : Int32) (A2 B2 C2 D2 : Int), Er (d + 3) 1 (69, [some (.ref 2), some (.int (nI k)), some (.long (lZ x)), none, some (.long (lZ y)), none, some (.int (nI s)), o7, o8, o9, o10], [], NS (CS σ A B C D) nv) (.inl (some (.int r)), NS (CS σ A2 B2 C2 D2) nv, 0) ∧ (r = 0 ∨ (r = 1 ∧ ∃ X Y : Nat, FI F N A2 B2 C2 D2 X Y ∧ 2 * (X * Y) ≤ F * N)) := by
      intro n
      induction n with
      | zero =>
        intro s A B C D X Y x y hs h hx hy hy0 hyx hx62 hxa hxb o7 o8 o9 o10
        rw [Nat.add_zero] at hs
        subst hs
        obtain ⟨r, A2, B2, C2, D2, hE, hr⟩ := fin A B C D X Y h (lZ x) (lZ y) (nI 62) o7 o8 o9 o10
        exact ⟨r, A2, B2, C2, D2, b1_69 (fun _ => hE) (fun g => absurd (Int32.le_refl _) g), hr⟩
      | succ n ih =>
        intro s A B C D X Y x y hs h hx hy hy0 hyx hx62 hxa hxb o7 o8 o9 o10
        have h2 := h
        obtain ⟨hsg, hA, hB, hC, hD, hX, hY, hg, hYX, hXF, hp, hpr⟩ := h2
        have hA' := hA
        have hB' := hB
        have hC' := hC
        have hD' := hD
        unfold sml at hA' hB' hC' hD'
        have ea : gfl (NS (CS σ A B C D) nv) 2 3 = lZ A := CS_a σ A B C D
        have eb : gfl (NS (CS σ A B C D) nv) 2 4 = lZ B := CS_b σ A B C D
        have ec : gfl (NS (CS σ A B C D) nv) 2 5 = lZ C := CS_c σ A B C D
        have ed : gfl (NS (CS σ A B C D) nv) 2 6 = lZ D := CS_d σ A B C D
        have start : ∀ {q : Rs}, (62 ≤ s → False) → Er (d + 3) 1 (76, [some (.ref 2), some (.int (nI k)), some (.long (lZ x)), none, some (.long (lZ y)), none, some (.int (nI s)), o7, o8, o9, o10], [], NS (CS σ A B C D) nv) q → Er (d + 3) 1 (69, [some (.ref 2), some (.int (nI k)), some (.long (lZ x)), none, some (.long (lZ y)), none, some (.int (nI s)), o7, o8, o9, o10], [], NS (CS σ A B C D) nv) q := by
          intro q _ hE
          exact b1_69 (fun g => absurd g (nI_ge (b := 62) (by omega) (by decide))) (fun _ => hE)
        have tc : (0 : Int64) < lZ y + lZ C ↔ 0 < y + C := by
          rw [lZ_add]
          exact lZ_lt (a := 0) (by decide) (by decide) (by omega) (by omega)
        have td : (0 : Int64) < lZ y + lZ D ↔ 0 < y + D := by
          rw [lZ_add]
          exact lZ_lt (a := 0) (by decide) (by decide) (by omega) (by omega)
        by_cases gc : 0 < y + C
        · by_cases gd : 0 < y + D
          · have q1 : (lZ x + lZ A) / (lZ y + lZ C) = lZ ((x + A) / (y + C)) := by
              rw [lZ_add, lZ_add, lZ_div hxa (by omega) gc (by omega)]
            have q2 : (lZ x + lZ B) / (lZ y + lZ D) = lZ ((x + B) / (y + D)) := by
              rw [lZ_add, lZ_add, lZ_div hxb (by omega) gd (by omega)]
            have r1 : 0 ≤ (x + A) / (y + C) := Int.ediv_nonneg hxa (Int.le_of_lt gc)
            have r2 : 0 ≤ (x + B) / (y + D) := Int.ediv_nonneg hxb (Int.le_of_lt gd)
            have r3 : (x + A) / (y + C) ≤ x + A := Int.ediv_le_self _ hxa
            have r4 : (x + B) / (y + D) ≤ x + B := Int.ediv_le_self _ hxb
            have pre : ∀ {q : Rs}, (¬ (x + A) / (y + C) = (x + B) / (y + D) → Er (d + 3) 1 (170, [some (.ref 2), some (.int (nI k)), some (.long (lZ x)), none, some (.long (lZ y)), none, some (.int (nI s)), some (.long (lZ ((x + A) / (y + C)))), none, o9, o10], [], NS (CS σ A B C D) nv) q) → ((x + A) / (y + C) = (x + B) / (y + D) → Er (d + 3) 1 (136, [some (.ref 2), some (.int (nI k)), some (.long (lZ x)), none, some (.long (lZ y)), none, some (.int (nI s)), some (.long (lZ ((x + A) / (y + C)))), none, o9, o10], [], NS (CS σ A B C D) nv) q) → Er (d + 3) 1 (69, [some (.ref 2), some (.int (nI k)), some (.long (lZ x)), none, some (.long (lZ y)), none, some (.int (nI s)), o7, o8, o9, o10], [], NS (CS σ A B C D) nv) q := by
              intro q hne heq
              refine start (by omega) ?_
              refine b1_76 k2 (fun g => absurd (by rw [ec]; exact tc.mpr gc) g) (fun _ => ?_)
              refine b1_88 k2 (fun g => absurd (by rw [ed]; exact td.mpr gd) g) (fun _ => ?_)
              refine b1_100 k2 ?_ ?_ (fun g => ?_) (fun g => ?_)
              · rw [ec]
                intro g
                have := tc.mpr gc
                rw [g] at this
                exact absurd this Int64.lt_irrefl
              · rw [ed]
                intro g
                have := td.mpr gd
                rw [g] at this
                exact absurd this Int64.lt_irrefl
              · rw [ea, eb, ec, ed, q1, q2] at g
                rw [ea, ec, q1]
                exact hne (fun e => g (by rw [e]))
              · rw [ea, eb, ec, ed, q1, q2] at g
                rw [ea, ec, q1]
                exact heq ((lZ_eq (by omega) (by omega) (by omega) (by omega)).mp g)
            by_cases hq : (x + A) / (y + C) = (x + B) / (y + D)
            · obtain ⟨q, hq1⟩ : ∃ q, q = (x + A) / (y + C) := ⟨_, rfl⟩
              rw [← hq1] at pre r1 r3
              obtain ⟨hY0, hq0, hmod, hsg2, hy2, hy3⟩ := lehmer (T := ((2 ^ k : Nat) : Int)) (lf := ((F % 2 ^ k : Nat) : Int)) (ln := ((N % 2 ^ k : Nat) : Int)) (F := (F : Int)) (N := (N : Int)) (q := q) hsg hTp ⟨Int.natCast_nonneg _, by exact_mod_cast Nat.mod_lt F (Nat.two_pow_pos k)⟩ ⟨Int.natCast_nonneg _, by exact_mod_cast Nat.mod_lt N (Nat.two_pow_pos k)⟩
                (by rw [← Int.natCast_mul, ← Int.natCast_add]; congr 1; rw [Nat.mul_comm]; exact (Nat.div_add_mod F (2 ^ k)).symm) (by rw [← Int.natCast_mul, ← Int.natCast_add]; congr 1; rw [Nat.mul_comm]; exact (Nat.div_add_mod N (2 ^ k)).symm) hx hy hX hY gc gd hxa hxb hq1 (by rw [hq1]; exact hq)
              rcases c_turn (d := d + 1) (σ := NS σ nv) (q := q) hA hB hC hD hq0 (by omega) with hE | ⟨s1, s2, hE⟩
              · obtain ⟨r, A2, B2, C2, D2, hE2, hr⟩ := fin A B C D X Y h (lZ x) (lZ y) (nI s) (some (.long (lZ q))) none o9 o10
                refine ⟨r, A2, B2, C2, D2, pre (fun g => absurd (by rw [hq1]; exact hq) g) (fun _ => ?_), hr⟩
                exact b1_136 k2 hE (b1_142 (fun g => absurd rfl g) (fun _ => b1_145 hE2))
              · have hm := Nat.mod_lt X hY0
                have hpp := half_prod hYX hY0
                have nxt := ih (s + 1) C D (A - q * C) (B - q * D) Y (X % Y) y (x - q * y) (by omega)
                  ⟨hsg2, hC, hD, s1, s2, hY, by rw [hmod, hX, hY]; grind, by rw [gcd_step]; exact hg, by omega, by omega, by omega, Or.inr (by omega)⟩
                  hy (by rw [hx, hy]; grind) hy2 (by omega) (by omega) (by omega) (by omega) (some (.long (lZ q))) none (some (.long (lZ (x - q * y)))) none
                obtain ⟨r, A2, B2, C2, D2, hE2, hr⟩ := nxt
                refine ⟨r, A2, B2, C2, D2, pre (fun g => absurd (by rw [hq1]; exact hq) g) (fun _ => ?_), hr⟩
                refine b1_136 k2 hE (b1_142 (fun _ => ?_) (fun g => absurd g (by decide)))
                refine b1_148 ?_
                rw [lZ_mul, lZ_sub, nI_1]
                exact hE2
            · obtain ⟨r, A2, B2, C2, D2, hE2, hr⟩ := fin A B C D X Y h (lZ x) (lZ y) (nI s) (some (.long (lZ ((x + A) / (y + C))))) none o9 o10
              exact ⟨r, A2, B2, C2, D2, pre (fun _ => hE2) (fun g => absurd g hq), hr⟩
          · obtain ⟨r, A2, B2, C2, D2, hE, hr⟩ := fin A B C D X Y h (lZ x) (lZ y) (nI s) o7 o8 o9 o10
            refine ⟨r, A2, B2, C2, D2, start (by omega) ?_, hr⟩
            refine b1_76 k2 (fun g => absurd (by rw [ec]; exact tc.mpr gc) g) (fun _ => ?_)
            exact b1_88 k2 (fun _ => hE) (fun g => absurd (td.mp (by rw [ed] at g; exact g)) gd)
        · obtain ⟨r, A2, B2, C2, D2, hE, hr⟩ := fin A B C D X Y h (lZ x) (lZ y) (nI s) o7 o8 o9 o10
          refine ⟨r, A2, B2, C2, D2, start (by omega) ?_, hr⟩
          exact b1_76 k2 (fun _ => hE) (fun g => absurd (tc.mp (by rw [ec] at g; exact g)) gc)
    have one : FI F N 1 0 0 1 F N := ⟨Or.inl (by decide), by unfold sml; decide, by unfold sml; decide, by unfold sml; decide, by unfold sml; decide, by omega, by omega, rfl, hge, Nat.le_refl _, Nat.le_refl _, Or.inl rfl⟩
    obtain ⟨r, A2, B2, C2, D2, hE, hr⟩ := loop 62 0 1 0 0 1 F N ((F / 2 ^ k : Nat) : Int) ((N / 2 ^ k : Nat) : Int) (by omega) one (by omega) (by omega) (Int.natCast_nonneg _) (by omega) (by omega) (Int.add_nonneg (Int.natCast_nonneg _) (by decide)) (Int.add_nonneg (Int.natCast_nonneg _) (by decide)) none none none none
    refine ⟨r, A2, B2, C2, D2, ?_, ?_⟩
    · refine b1_0 (k2f 3 (by simp)) (k2f 4 (by simp)) (k2f 5 (by simp)) (k2f 6 (by simp)) k2 N19.k (n_cmp (i := 19) (k := 20) (σ := CS σ 1 0 0 1) N19 N20 hb) ?_
      refine b1_31 (fun _ => ?_) (fun g => ?_)
      · refine b1_36 k2 N19.k (n_len (i := 19) N19 hb) ?_
        have ek : nI (bln (nv 19)) - 62 = nI k := by
          rw [← hF, hk]
          exact pk_sub (b := 62) (by omega)
        refine b1_43 (σ2 := NS (CS σ 1 0 0 1) nv) (r := lN (F / 2 ^ k)) k2 N19.k ?_ ?_
        · rw [ek]
          have := n_bitsFrom (d := d) (σ := CS σ 1 0 0 1) (n := k) N19 hb (by omega)
          rw [← hF, Nat.mod_eq_of_lt (by omega)] at this
          exact this
        rw [ek]
        refine b1_55 (σ2 := NS (CS σ 1 0 0 1) nv) (r := lN (N / 2 ^ k)) k2 N20.k ?_ ?_
        · have := n_bitsFrom (d := d) (σ := CS σ 1 0 0 1) (n := k) N20 hb (by omega)
          rw [← hN, Nat.mod_eq_of_lt (by omega)] at this
          exact this
        refine b1_64 ?_
        rw [lZ_N, lZ_N] at hE
        exact hE
      · exfalso
        apply g
        unfold cmpI
        rw [← hF, ← hN]
        by_cases e : (F : Int) = N
        · rw [if_pos e]; decide
        · rw [if_neg e, if_neg (by omega)]; decide
    · rcases hr with h | ⟨h1, X, Y, h2, h3⟩
      · exact Or.inl h
      · exact Or.inr ⟨h1, by rw [← hF, ← hN]; exact hge, X, Y, by rw [← hF, ← hN]; exact h2, by rw [← hF, ← hN]; exact h3⟩
  · refine ⟨0, 1, 0, 0, 1, ?_, Or.inl rfl⟩
    refine b1_0 (k2f 3 (by simp)) (k2f 4 (by simp)) (k2f 5 (by simp)) (k2f 6 (by simp)) k2 N19.k (n_cmp (i := 19) (k := 20) (σ := CS σ 1 0 0 1) N19 N20 hb) ?_
    refine b1_31 (fun g => ?_) (fun _ => b1_34 rfl)
    unfold cmpI at g
    rw [if_neg (by omega), if_pos (by omega)] at g
    exact absurd g (by decide)
