/-! CommonDivisor -/
def CS (σ : St) (A B C D : Int) : St := sfl (sfl (sfl (sfl σ 2 3 (lZ A)) 2 4 (lZ B)) 2 5 (lZ C)) 2 6 (lZ D)
theorem gfl_sfl (σ : St) (i k : Nat) (v : Int64) (a b : Nat) : gfl (sfl σ i k v) a b = if a = i ∧ b = k then v else gfl σ a b := rfl
theorem CS_a (σ : St) (A B C D : Int) : gfl (CS σ A B C D) 2 3 = lZ A := by simp [CS, gfl_sfl]
theorem CS_b (σ : St) (A B C D : Int) : gfl (CS σ A B C D) 2 4 = lZ B := by simp [CS, gfl_sfl]
theorem CS_c (σ : St) (A B C D : Int) : gfl (CS σ A B C D) 2 5 = lZ C := by simp [CS, gfl_sfl]
theorem CS_d (σ : St) (A B C D : Int) : gfl (CS σ A B C D) 2 6 = lZ D := by simp [CS, gfl_sfl]
theorem CS_CS (σ : St) (A B C D A2 B2 C2 D2 : Int) : CS (CS σ A B C D) A2 B2 C2 D2 = CS σ A2 B2 C2 D2 := by
  unfold CS sfl
  simp only
  congr 2
  funext a b
  by_cases h6 : a = 2 ∧ b = 6
  · rw [if_pos h6, if_pos h6]
  · by_cases h5 : a = 2 ∧ b = 5
    · rw [if_neg h6, if_pos h5, if_neg h6, if_pos h5]
    · by_cases h4 : a = 2 ∧ b = 4
      · rw [if_neg h6, if_neg h5, if_pos h4, if_neg h6, if_neg h5, if_pos h4]
      · by_cases h3 : a = 2 ∧ b = 3
        · rw [if_neg h6, if_neg h5, if_neg h4, if_pos h3, if_neg h6, if_neg h5, if_neg h4, if_pos h3]
        · rw [if_neg h6, if_neg h5, if_neg h4, if_neg h3, if_neg h6, if_neg h5, if_neg h4, if_neg h3, if_neg h6, if_neg h5, if_neg h4, if_neg h3]
theorem CS_NS (σ : St) (nv : Nat → Nat) (A B C D : Int) : CS (NS σ nv) A B C D = NS (CS σ A B C D) nv := rfl
theorem k2 : (2 : Nat) < 24 ∧ kls 2 = 0 := ⟨by decide, rfl⟩
theorem k2f (j : Nat) (h : j = 3 ∨ j = 4 ∨ j = 5 ∨ j = 6) : (2 : Nat) < 24 ∧ kls 2 = 0 ∧ ft 0 j = 1 := by
  rcases h with rfl | rfl | rfl | rfl <;> exact ⟨by decide, rfl, rfl⟩
theorem N19 : NI 19 := ⟨by decide, by decide⟩
theorem N20 : NI 20 := ⟨by decide, by decide⟩
theorem gcd_step {X Y : Nat} : Nat.gcd Y (X % Y) = Nat.gcd X Y := by
  rw [Nat.gcd_comm Y, ← Nat.gcd_rec, Nat.gcd_comm]
theorem half_mod {X Y : Nat} (h : Y ≤ X) (h0 : 0 < Y) : 2 * (X % Y) ≤ X := by
  have h1 := Nat.mod_lt X h0
  have h2 := Nat.div_add_mod X Y
  have h3 : 1 ≤ X / Y := Nat.div_pos h h0
  have h4 : Y * 1 ≤ Y * (X / Y) := Nat.mul_le_mul_left _ h3
  omega
theorem half_prod {X Y : Nat} (h : Y ≤ X) (h0 : 0 < Y) : 2 * (Y * (X % Y)) ≤ X * Y := by
  have := Nat.mul_le_mul_left Y (half_mod h h0)
  rw [show 2 * (Y * (X % Y)) = Y * (2 * (X % Y)) by rw [Nat.mul_left_comm], Nat.mul_comm X]
  exact this
theorem c_ofLongs {d g r : Nat} {σ : St} (hr : r < 2 ^ 62) (hg : g < 2 ^ 62) : Er (d + 1) 5 (0, ent 5 [.long (lN g), .long (lN r)], [], σ) (.inl (some (.long (lN (Nat.gcd g r)))), σ, 0) := by
  have loop : ∀ e s x y, y ≤ x → x < 2 ^ 62 → x * y < 2 ^ e → s + e ≤ 1999 → ∀ o9 o10, Er (d + 1) 5 (9, [some (.long (lN g)), none, some (.long (lN r)), none, some (.long (lN x)), none, some (.long (lN y)), none, some (.int (nI s)), o9, o10], [], σ) (.inl (some (.long (lN (Nat.gcd x y)))), σ, 0) := by
    intro e
    induction e with
    | zero =>
      intro s x y hy hx hxy hs o9 o10
      have hy0 : y = 0 := by
        rcases Nat.eq_zero_or_pos y with h | h
        · exact h
        · have := Nat.mul_pos (show 0 < x by omega) h
          omega
      subst hy0
      refine b5_9 (fun q => absurd q (nI_ge (b := 2000) (by omega) (by decide))) (fun _ => ?_)
      refine b5_17 (fun _ => ?_) (fun q => absurd rfl q)
      rw [Nat.gcd_zero_right]
      exact b5_45
    | succ e ih =>
      intro s x y hy hx hxy hs o9 o10
      refine b5_9 (fun q => absurd q (nI_ge (b := 2000) (by omega) (by decide))) (fun _ => ?_)
      refine b5_17 (fun q => ?_) (fun q => ?_)
      · have hy0 : y = 0 := (lN_inj (by omega) (by decide)).mp q
        subst hy0
        rw [Nat.gcd_zero_right]
        exact b5_45
      · have hy0 : 0 < y := by
          rcases Nat.eq_zero_or_pos y with h | h
          · subst h; exact absurd rfl q
          · exact h
        refine b5_24 q ?_
        rw [pk_lRem (by omega) hy0 (by omega), nI_1, ← gcd_step]
        have hm := Nat.mod_lt x hy0
        have hp := half_prod hy hy0
        refine ih (s + 1) y (x % y) (by omega) (by omega) ?_ (by omega) _ _
        rw [Nat.pow_succ] at hxy
        omega
  have hprod : ∀ a b : Nat, a < 2 ^ 62 → b < 2 ^ 62 → a * b < 2 ^ 124 := by
    intro a b ha hb
    have h2 : a * b < 2 ^ 62 * 2 ^ 62 := Nat.mul_lt_mul_of_lt_of_le ha (Nat.le_of_lt hb) (by decide)
    rw [← Nat.pow_add] at h2
    exact h2
  by_cases hle : r ≤ g
  · exact b5_0 (loop 124 0 g r hle hg (hprod _ _ hg hr) (by decide) none none)
  · have hr0 : 0 < r := by omega
    refine b5_0 (b5_9 (fun q => absurd q (by decide)) (fun _ => b5_17 (fun q => ?_) (fun q => b5_24 q ?_)))
    · have : r = 0 := (lN_inj (by omega) (by decide)).mp q
      omega
    · rw [pk_lRem (by omega) hr0 (by omega), Nat.mod_eq_of_lt (by omega), Nat.gcd_comm g r]
      exact loop 124 1 r g (by omega) hr (hprod _ _ hr hg) (by decide) _ _
theorem n_stepOnce {d : Nat} {σ : St} {nv : Nat → Nat} (hb : Bd nv) (hlt : nv 19 < 2 ^ 600) : ∃ nv2, Er (d + 4) 4 (0, ent 4 [.ref 2], [], NS σ nv) (.inl none, NS σ nv2, 0) ∧ nv2 19 = nv 20 ∧ nv2 20 = nv 19 % nv 20 ∧ Bd nv2 ∧ ∀ j, j < 19 → nv2 j = nv j := by
  have hD : DI 4 := Or.inr rfl
  obtain ⟨x, hx, hE⟩ := n_div (d := d) (σ := σ) (i := 19) (k := 20) hD N19 N20 (by decide) (by decide) (by decide) (by decide) (by decide) hb hlt
  have f0 : fr 4 0 = 21 := rfl
  have f1 : fr 4 1 = 22 := rfl
  have f2 : fr 4 2 = 23 := rfl
  rw [f0, f1, f2] at hE
  have hm : nv 19 % nv 20 < 2 ^ 640 := Nat.lt_of_le_of_lt (Nat.mod_le _ _) (hb 19)
  have b1 : Bd (up (up (up nv 21 (nv 19 / nv 20)) 22 (nv 19 % nv 20)) 23 x) := Bd_up (Bd_up (Bd_up hb (Nat.lt_of_le_of_lt (Nat.div_le_self _ _) (hb 19))) hm) hx
  have h1 := n_takeN (d := d + 2) (σ := σ) (i := 19) (k := 20) N19 N20 b1
  have b2 := Bd_up (i := 19) b1 (b1 20)
  have h2 := n_takeN (d := d + 2) (σ := σ) (i := 20) (k := 22) N20 ⟨by decide, by decide⟩ b2
  refine ⟨_, b4_0 k2 ⟨by decide, rfl⟩ hE (b4_15 k2 N19.k h1 (b4_26 k2 ⟨by decide, rfl⟩ N20.k h2 b4_40)), ?_, ?_, Bd_up b2 (b2 22), ?_⟩
  · rw [up_n (by decide), up_s, up_n (by decide), up_n (by decide), up_n (by decide)]
  · rw [up_s, up_n (by decide), up_n (by decide), up_s]
  · intro j hj
    rw [up_n (by omega), up_n (by omega), up_n (by omega), up_n (by omega), up_n (by omega)]
/-! a run of steps foreseen -/
theorem lZ_div {u v : Int} (hu : 0 ≤ u) (hu2 : u < 2 ^ 63) (hv : 0 < v) (hv2 : v < 2 ^ 63) : lZ u / lZ v = lZ (u / v) := by
  obtain ⟨a, rfl⟩ : ∃ a : Nat, u = a := ⟨u.toNat, by omega⟩
  obtain ⟨b, rfl⟩ : ∃ b : Nat, v = b := ⟨v.toNat, by omega⟩
  rw [lZ_N, lZ_N, pk_lDiv (by omega) (by omega) (by omega), ← lZ_N]
  rfl
def sgs (A B C D : Int) : Prop := (0 ≤ A ∧ B ≤ 0 ∧ C ≤ 0 ∧ 0 ≤ D) ∨ (A ≤ 0 ∧ 0 ≤ B ∧ 0 ≤ C ∧ D ≤ 0)
def sml (A : Int) : Prop := -2147483648 < A ∧ A < 2147483648
theorem c_turn {d : Nat} {σ : St} {A B C D q : Int} (hA : sml A) (hB : sml B) (hC : sml C) (hD : sml D) (hq : 0 ≤ q) (hq2 : q < 2 ^ 63) :
    Er (d + 1) 2 (0, ent 2 [.ref 2, .long (lZ q)], [], CS σ A B C D) (.inl (some (.int 0)), CS σ A B C D, 0) ∨ (sml (A - q * C) ∧ sml (B - q * D) ∧ Er (d + 1) 2 (0, ent 2 [.ref 2, .long (lZ q)], [], CS σ A B C D) (.inl (some (.int 1)), CS σ C D (A - q * C) (B - q * D), 0)) := by
  have tB : (2147483648 : Int64).toInt = 2147483648 := rfl
  have habs : ∀ z : Int, -2 ^ 62 ≤ z - 2147483648 → z + 2147483648 ≤ 2 ^ 62 + 2147483648 * 2 → ((if 0 < lZ z then lZ z else -lZ z) < (2147483648 : Int64) ↔ sml z) := by
    intro z h1 h2
    unfold sml
    have t0 : (0 : Int64) < lZ z ↔ 0 < z := lZ_lt (a := 0) (by decide) (by decide) (by omega) (by omega)
    by_cases g : 0 < z
    · rw [if_pos (t0.mpr g), l_lt, lZ_t (by omega) (by omega), tB]
      omega
    · rw [if_neg (fun k => g (t0.mp k)), lZ_neg, l_lt, lZ_t (by omega) (by omega), tB]
      omega
  by_cases hs : q < 2147483648
  · unfold sml at hA hB hC hD
    have bnd : ∀ x y : Int, -2147483648 < x → x < 2147483648 → -2147483648 < y → y < 2147483648 → -2 ^ 62 ≤ x - q * y - 2147483648 ∧ x - q * y + 2147483648 ≤ 2 ^ 62 + 2147483648 * 2 := by
      intro x y x1 x2 y1 y2
      have m1 : q * y ≤ q * 2147483647 := Int.mul_le_mul_of_nonneg_left (by omega) hq
      have m2 : q * (-2147483647) ≤ q * y := Int.mul_le_mul_of_nonneg_left (by omega) hq
      omega
    have e1 : gfl (CS σ A B C D) 2 3 - lZ q * gfl (CS σ A B C D) 2 5 = lZ (A - q * C) := by rw [CS_a, CS_c, lZ_mul, lZ_sub]
    have e2 : gfl (CS σ A B C D) 2 4 - lZ q * gfl (CS σ A B C D) 2 6 = lZ (B - q * D) := by rw [CS_b, CS_d, lZ_mul, lZ_sub]
    have c1 := bnd A C hA.1 hA.2 hC.1 hC.2
    have c2 := bnd B D hB.1 hB.2 hD.1 hD.2
    have hqs : lZ q < (2147483648 : Int64) := by
      rw [l_lt, lZ_t (by omega) (by omega), tB]
      exact hs
    by_cases g1 : sml (A - q * C)
    · by_cases g2 : sml (B - q * D)
      · refine Or.inr ⟨g1, g2, ?_⟩
        refine b2_0 (fun _ => ?_) (fun g => absurd hqs g)
        refine b2_10 k2 (fun g => ?_) (fun _ => ?_)
        · rw [e1, habs _ c1.1 c1.2] at g
          exact absurd g1 g
        rw [e1, e2]
        refine b2_46 (fun _ => ?_) (fun g => ?_)
        · have := b2_60 (d := d) (x0 := 2) (x1 := lZ q) (x3 := lZ (A - q * C)) (x5 := lZ (B - q * D)) (σ := CS σ A B C D) k2 (k2f 3 (by simp)) (k2f 4 (by simp)) (k2f 5 (by simp)) (k2f 6 (by simp)) rfl
          have e3 : gfl (sfl (CS σ A B C D) 2 3 (gfl (CS σ A B C D) 2 5)) 2 6 = lZ D := by
            rw [gfl_sfl, if_neg (by omega), CS_d]
          rw [e3, CS_c] at this
          have e4 : sfl (sfl (sfl (sfl (CS σ A B C D) 2 3 (lZ C)) 2 4 (lZ D)) 2 5 (lZ (A - q * C))) 2 6 (lZ (B - q * D)) = CS σ C D (A - q * C) (B - q * D) := CS_CS _ _ _ _ _ _ _ _ _
          rw [e4] at this
          exact this
        · rw [habs _ c2.1 c2.2] at g
          exact absurd g2 g
      · refine Or.inl ?_
        refine b2_0 (fun _ => ?_) (fun g => absurd hqs g)
        refine b2_10 k2 (fun _ => b2_58 rfl) (fun _ => ?_)
        rw [e1, e2]
        refine b2_46 (fun g => ?_) (fun _ => b2_58 rfl)
        rw [habs _ c2.1 c2.2] at g
        exact absurd g g2
    · refine Or.inl ?_
      refine b2_0 (fun _ => ?_) (fun g => absurd hqs g)
      refine b2_10 k2 (fun _ => b2_58 rfl) (fun g => ?_)
      rw [e1, habs _ c1.1 c1.2] at g
      exact absurd g g1
  · refine Or.inl (b2_0 (fun g => ?_) (fun _ => b2_8 rfl))
    rw [l_lt, lZ_t (by omega) (by omega), tB] at g
    exact absurd g hs
/-- one step, as the highest bits tell it, is Euclid's -/
theorem lehmer {A B C D x y T lf ln F N q xf yn : Int} {X Y : Nat} (hs : sgs A B C D) (hT : 0 < T) (hlf : 0 ≤ lf ∧ lf < T) (hln : 0 ≤ ln ∧ ln < T) (hF : F = xf * T + lf) (hN : N = yn * T + ln) (hx : x = A * xf + B * yn) (hy : y = C * xf + D * yn)
    (hX : (X : Int) = A * F + B * N) (hY : (Y : Int) = C * F + D * N) (hyc : 0 < y + C) (hyd : 0 < y + D) (hxa : 0 ≤ x + A) (hxb : 0 ≤ x + B) (q1 : q = (x + A) / (y + C)) (q2 : q = (x + B) / (y + D)) :
    0 < Y ∧ 0 ≤ q ∧ ((X % Y : Nat) : Int) = X - q * Y ∧ sgs C D (A - q * C) (B - q * D) ∧ 0 ≤ x - q * y ∧ x - q * y < y := by
  have hq0 : 0 ≤ q := by rw [q1]; exact Int.ediv_nonneg hxa (Int.le_of_lt hyc)
  have a1 : q * (y + C) ≤ x + A := by rw [q1]; exact Int.ediv_mul_le _ (by omega)
  have a2 : x + A < (q + 1) * (y + C) := by rw [q1]; exact Int.lt_ediv_add_one_mul_self _ hyc
  have a3 : q * (y + D) ≤ x + B := by rw [q2]; exact Int.ediv_mul_le _ (by omega)
  have a4 : x + B < (q + 1) * (y + D) := by rw [q2]; exact Int.lt_ediv_add_one_mul_self _ hyd
  have eX : (X : Int) = T * x + A * lf + B * ln := by rw [hX, hF, hN, hx]; grind
  have eY : (Y : Int) = T * y + C * lf + D * ln := by rw [hY, hF, hN, hy]; grind
  rcases hs with ⟨sA, sB, sC, sD⟩ | ⟨sA, sB, sC, sD⟩
  · have u1 : A * lf ≤ A * T := Int.mul_le_mul_of_nonneg_left (by omega) sA
    have u2 : 0 ≤ A * lf := Int.mul_nonneg sA hlf.1
    have u3 : B * T ≤ B * ln := Int.mul_le_mul_of_nonpos_left sB (by omega)
    have u4 : B * ln ≤ 0 := Int.mul_nonpos_of_nonpos_of_nonneg sB hln.1
    have u5 : C * T ≤ C * lf := Int.mul_le_mul_of_nonpos_left sC (by omega)
    have u6 : C * lf ≤ 0 := Int.mul_nonpos_of_nonpos_of_nonneg sC hlf.1
    have u7 : D * ln ≤ D * T := Int.mul_le_mul_of_nonneg_left (by omega) sD
    have u8 : 0 ≤ D * ln := Int.mul_nonneg sD hln.1
    have X1 : (X : Int) ≤ T * (x + A) := by rw [Int.mul_add, Int.mul_comm T A]; omega
    have X2 : T * (x + B) ≤ X := by rw [Int.mul_add, Int.mul_comm T B]; omega
    have Y1 : (Y : Int) ≤ T * (y + D) := by rw [Int.mul_add, Int.mul_comm T D]; omega
    have Y2 : T * (y + C) ≤ Y := by rw [Int.mul_add, Int.mul_comm T C]; omega
    have hY0 : 0 < (Y : Int) := Int.lt_of_lt_of_le (Int.mul_pos hT hyc) Y2
    have L : q * Y ≤ X := by
      have b1 : q * Y ≤ q * (T * (y + D)) := Int.mul_le_mul_of_nonneg_left Y1 hq0
      have b2 : T * (q * (y + D)) ≤ T * (x + B) := Int.mul_le_mul_of_nonneg_left a3 (Int.le_of_lt hT)
      rw [Int.mul_left_comm] at b1
      omega
    have U : (X : Int) < (q + 1) * Y := by
      have b1 : (q + 1) * (T * (y + C)) ≤ (q + 1) * Y := Int.mul_le_mul_of_nonneg_left Y2 (by omega)
      have b2 : T * (x + A) < T * ((q + 1) * (y + C)) := Int.mul_lt_mul_of_pos_left a2 hT
      rw [Int.mul_left_comm] at b1
      omega
    have qC : q * C ≤ 0 := Int.mul_nonpos_of_nonneg_of_nonpos hq0 sC
    have qD : 0 ≤ q * D := Int.mul_nonneg hq0 sD
    rw [Int.mul_add, Int.add_mul q 1 y, Int.add_mul q 1 C, Int.one_mul, Int.one_mul] at a2
    rw [Int.mul_add] at a3
    refine ⟨by omega, hq0, ?_, Or.inr ⟨sC, sD, by omega, by omega⟩, by omega, by omega⟩
    rw [Int.add_mul, Int.one_mul] at U
    rw [Int.natCast_emod]
    refine (Int.emod_eq_iff (by omega)).mpr ?_
    refine ⟨by omega, by omega, ?_⟩
    exact ⟨-q, by rw [Int.mul_neg, Int.mul_comm]; omega⟩
  · have u1 : B * ln ≤ B * T := Int.mul_le_mul_of_nonneg_left (by omega) sB
    have u2 : 0 ≤ B * ln := Int.mul_nonneg sB hln.1
    have u3 : A * T ≤ A * lf := Int.mul_le_mul_of_nonpos_left sA (by omega)
    have u4 : A * lf ≤ 0 := Int.mul_nonpos_of_nonpos_of_nonneg sA hlf.1
    have u5 : D * T ≤ D * ln := Int.mul_le_mul_of_nonpos_left sD (by omega)
    have u6 : D * ln ≤ 0 := Int.mul_nonpos_of_nonpos_of_nonneg sD hln.1
    have u7 : C * lf ≤ C * T := Int.mul_le_mul_of_nonneg_left (by omega) sC
    have u8 : 0 ≤ C * lf := Int.mul_nonneg sC hlf.1
    have X1 : (X : Int) ≤ T * (x + B) := by rw [Int.mul_add, Int.mul_comm T B]; omega
    have X2 : T * (x + A) ≤ X := by rw [Int.mul_add, Int.mul_comm T A]; omega
    have Y1 : (Y : Int) ≤ T * (y + C) := by rw [Int.mul_add, Int.mul_comm T C]; omega
    have Y2 : T * (y + D) ≤ Y := by rw [Int.mul_add, Int.mul_comm T D]; omega
    have hY0 : 0 < (Y : Int) := Int.lt_of_lt_of_le (Int.mul_pos hT hyd) Y2
    have L : q * Y ≤ X := by
      have b1 : q * Y ≤ q * (T * (y + C)) := Int.mul_le_mul_of_nonneg_left Y1 hq0
      have b2 : T * (q * (y + C)) ≤ T * (x + A) := Int.mul_le_mul_of_nonneg_left a1 (Int.le_of_lt hT)
      rw [Int.mul_left_comm] at b1
      omega
    have U : (X : Int) < (q + 1) * Y := by
      have b1 : (q + 1) * (T * (y + D)) ≤ (q + 1) * Y := Int.mul_le_mul_of_nonneg_left Y2 (by omega)
      have b2 : T * (x + B) < T * ((q + 1) * (y + D)) := Int.mul_lt_mul_of_pos_left a4 hT
      rw [Int.mul_left_comm] at b1
      omega
    have qC : 0 ≤ q * C := Int.mul_nonneg hq0 sC
    have qD : q * D ≤ 0 := Int.mul_nonpos_of_nonneg_of_nonpos hq0 sD
    rw [Int.mul_add, Int.add_mul q 1 y, Int.add_mul q 1 D, Int.one_mul, Int.one_mul] at a4
    rw [Int.mul_add] at a1
    refine ⟨by omega, hq0, ?_, Or.inl ⟨sC, sD, by omega, by omega⟩, by omega, by omega⟩
    rw [Int.add_mul, Int.one_mul] at U
    rw [Int.natCast_emod]
    refine (Int.emod_eq_iff (by omega)).mpr ?_
    refine ⟨by omega, by omega, ?_⟩
    exact ⟨-q, by rw [Int.mul_neg, Int.mul_comm]; omega⟩
