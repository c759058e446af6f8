/-! NumberModels: numbers and doubles -/
theorem O46 : FO 46 := Or.inl rfl
theorem O47 : FO 47 := Or.inr rfl
def KK (x A D : Nat) : Nat := bln (A / D) - (fb x + 1)
theorem isK_KK (x A D : Nat) : isK x A D (KK x A D) := by
  unfold isK KK
  rw [← Nat.div_div_eq_div_mul]
  obtain ⟨s, hs⟩ : ∃ s, s = A / D := ⟨_, rfl⟩
  rw [← hs]
  refine ⟨?_, ?_⟩
  · rw [Nat.div_lt_iff_lt_mul (Nat.two_pow_pos _), ← Nat.pow_add]
    exact Nat.lt_of_lt_of_le (bln_lt (v := s)) (Nat.pow_le_pow_right (by decide) (by omega))
  · by_cases c : bln s - (fb x + 1) = 0
    · exact Or.inl c
    · refine Or.inr ?_
      have h0 : 0 < s := bln_pos.mp (by omega)
      rw [Nat.le_div_iff_mul_le (Nat.two_pow_pos _), ← Nat.pow_add, show fb x + (bln s - (fb x + 1)) = bln s - 1 by omega]
      exact bln_ge h0
def encV (x : Nat) (b : Bool) (dir A D : Nat) : Nat := enc x b dir A D (KK x A D)
theorem encV_eq {x A D K dir : Nat} {b : Bool} (hD : 0 < D) (h : isK x A D K) : enc x b dir A D K = encV x b dir A D := by
  unfold encV
  rw [isK_eq hD h (isK_KK x A D)]
theorem encV_scale {x A D c dir : Nat} {b : Bool} (hD : 0 < D) (hc : 0 < c) : encV x b dir (A * c) (D * c) = encV x b dir A D := by
  have h := (isK_scale (x := x) (A := A) (D := D) (K := KK x A D) hc).mpr (isK_KK x A D)
  rw [← encV_eq (Nat.mul_pos hD hc) h, enc_scale hc]
  rfl
section
variable {d : Nat} {S : St}
theorem f_enc {x N D dir : Nat} {b : Bool} {z : Int} (h : FO x) (hD : 0 < D) (hs0 : 0 < N / D) (hs : N / D < 2 ^ 60) (hz1 : -10000 ≤ z) (hz2 : z ≤ 10000) (hd : dir < 4) (hrest : N % D ≠ 0 → fb x + 2 ≤ bln (N / D)) :
    Er (d + 2) 148 (0, ent 148 [.ref x, .int (if b then 1 else 0), .long (lN (N / D)), .int (iZ z), .int (if N % D ≠ 0 then 1 else 0), .int (nI dir)], [], S) (.inl (some (.long (lN (encV x b dir (N * 2 ^ (z + fz x).toNat) (D * 2 ^ (-(z + fz x)).toNat) + sbit x b)))), S, 0) :=
  f_encode h hD hs0 hs hz1 hz2 hd hrest (isK_KK _ _ _)
/-- of a whole number times a power of two -/
theorem f_enc1 {x s dir : Nat} {b : Bool} {z : Int} (h : FO x) (hs : s < 2 ^ 60) (hz1 : -10000 ≤ z) (hz2 : z ≤ 10000) (hd : dir < 4) :
    Er (d + 2) 148 (0, ent 148 [.ref x, .int (if b then 1 else 0), .long (lN s), .int (iZ z), .int 0, .int (nI dir)], [], S) (.inl (some (.long (lN ((if s = 0 then 0 else encV x b dir (s * 2 ^ (z + fz x).toNat) (2 ^ (-(z + fz x)).toNat)) + sbit x b)))), S, 0) := by
  by_cases c : s = 0
  · rw [if_pos c, c, Nat.zero_add]
    exact f_encode0 (r := false) h
  · rw [if_neg c]
    have t := f_enc (d := d) (S := S) (x := x) (N := s) (D := 1) (dir := dir) (b := b) (z := z) h (by decide) (by rw [Nat.div_one]; omega) (by rw [Nat.div_one]; exact hs) hz1 hz2 hd (fun w => absurd (Nat.mod_one s) w)
    rw [Nat.div_one, Nat.mod_one, Nat.one_mul] at t
    exact t
end
section
variable {d n : Nat} {σ : St} {sg : Nat → Int} {P Q : Nat → Nat}
def R1 (nv : Nat → Nat) (sd : Nat → Int32) (s : Int) (p q : Nat) : Prop := Bd nv ∧ nv 8 = p ∧ nv 9 = q ∧ sd 5 = iZ s
theorem x_R1 {a : Nat} {nv : Nat → Nat} {sd : Nat → Int32} (hD : Db n sg P Q) (ha : a < n) (hb : Bd nv) : R1 (up (up nv 8 (P a)) 9 (Q a)) (upi sd 5 (iZ (sg a))) (sg a) (P a) (Q a) := ⟨Bd_rd hD ha hb, by rw [up_n (by decide), up_s], up_s _ _ _, upi_s _ _ _⟩
def fmtV (x : Nat) (s : Int) (p q dir : Nat) : Nat := if s = 0 then 0 else encV x (decide (s < 0)) dir (p * 2 ^ fz x) q + sbit x (decide (s < 0))
theorem x_format {x dir p q : Nat} {s : Int} {nv : Nat → Nat} {sd : Nat → Int32} {g : Nat → Nat → Int64} (hx : FO x) (hdir : dir < 4) (hR : R1 nv sd s p q) (hN : Num s p q) :
    ∃ nv2, Bd nv2 ∧ Er (d + 4) 71 (0, ent 71 [.ref 0, .ref x, .int (nI dir)], [], KS σ nv sd g) (.inl (some (.long (lN (fmtV x s p q dir)))), KS σ nv2 sd g, 0) := by
  obtain ⟨hb, e8, e9, e5⟩ := hR
  have hs := hN.s
  obtain ⟨x1, x2, x3, x4, x5, x6, x7, x8, x9, x10⟩ := hx.s
  have g5 : ∀ nv' : Nat → Nat, gfi (KS σ nv' sd g) (fr 0 3) 2 = iZ s := fun nv' => by rw [f03, KS_sd (by decide), e5]
  unfold fmtV
  by_cases hs0 : s = 0
  · rw [if_pos hs0]
    exact ⟨nv, hb, b71_0 k0 k5 (fun w => absurd (by rw [g5, hs0]; rfl) w) (fun _ => b71_10)⟩
  · rw [if_neg hs0]
    have hp : 0 < p := by obtain ⟨_, _, _, _, c⟩ := hN; omega
    have hq := hN.2.2.1
    have lp : bln p ≤ 256 := b256.mpr hN.1
    have lq : bln q ≤ 256 := b256.mpr hN.2.1
    have lp0 := bln_pos.mpr hp
    have lq0 := bln_pos.mpr hq
    obtain ⟨z, hz⟩ : ∃ z : Int, z = 55 - ((bln p : Int) - bln q) := ⟨_, rfl⟩
    obtain ⟨a, ha⟩ : ∃ a : Nat, a = z.toNat := ⟨_, rfl⟩
    obtain ⟨c, hc⟩ : ∃ c : Nat, c = (-z).toNat := ⟨_, rfl⟩
    have bN : bln (p * 2 ^ a) = bln p + a := bln_mul hp
    have bD : bln (q * 2 ^ c) = bln q + c := bln_mul hq
    obtain ⟨N, eN⟩ : ∃ N, N = p * 2 ^ a := ⟨_, rfl⟩
    obtain ⟨D, eD⟩ : ∃ D, D = q * 2 ^ c := ⟨_, rfl⟩
    rw [← eN] at bN
    rw [← eD] at bD
    have hN0 : 0 < N := by rw [eN]; exact Nat.mul_pos hp (Nat.two_pow_pos _)
    have hD0 : 0 < D := by rw [eD]; exact Nat.mul_pos hq (Nat.two_pow_pos _)
    have hbd : bln N = bln D + 55 := by omega
    have N400 : N < 2 ^ 600 := Nat.lt_of_lt_of_le bln_lt (Nat.pow_le_pow_right (by decide) (by omega))
    have D400 : D < 2 ^ 600 := Nat.lt_of_lt_of_le bln_lt (Nat.pow_le_pow_right (by decide) (by omega))
    have q1 : 2 ^ 54 ≤ N / D := by
      rw [Nat.le_div_iff_mul_le hD0]
      have h1 := bln_ge hN0
      have h2 := bln_lt (v := D)
      have h3 : 2 ^ 54 * D ≤ 2 ^ 54 * 2 ^ bln D := Nat.mul_le_mul_left _ (Nat.le_of_lt h2)
      rw [← Nat.pow_add, show 54 + bln D = bln N - 1 by omega] at h3
      omega
    have q2 : N / D < 2 ^ 56 := by
      rw [Nat.div_lt_iff_lt_mul hD0]
      have h1 := bln_lt (v := N)
      have h2 := bln_ge hD0
      have h3 : 2 ^ 56 * 2 ^ (bln D - 1) ≤ 2 ^ 56 * D := Nat.mul_le_mul_left _ h2
      have bD0 := bln_pos.mpr hD0
      rw [← Nat.pow_add, show 56 + (bln D - 1) = bln N by omega] at h3
      omega
    have bq : 55 ≤ bln (N / D) := by
      apply Nat.le_of_not_lt
      intro w
      have : bln (N / D) ≤ 54 := by omega
      rw [bln_le] at this
      omega
    -- the run
    have t1 := m_len (d := d + 1) (σ := σ) (sd := sd) (g := g) (i := 8) N8 hb
    have t2 := m_len (d := d + 1) (σ := σ) (sd := sd) (g := g) (i := 9) N9 hb
    rw [e8] at t1
    rw [e9] at t2
    have t3 := m_takeN (d := d + 2) (σ := σ) (nv := nv) (sd := sd) (g := g) (i := 14) (k := 8) N14 N8 hb
    rw [e8] at t3
    have p640 : p < 2 ^ 640 := lt640 hN.1
    have b1 := Bd_up (i := 14) hb p640
    have t4 := m_shiftUp (d := d + 1) (σ := σ) (nv := up nv 14 p) (sd := sd) (g := g) (i := 14) (n := a) N14 b1 (by omega) (by rw [up_s, ← eN]; exact l640 N400)
    rw [up_s, up_up, ← eN] at t4
    have b2 := Bd_up (i := 14) hb (l640 N400)
    have t5 := m_takeN (d := d + 2) (σ := σ) (nv := up nv 14 N) (sd := sd) (g := g) (i := 15) (k := 9) N15 N9 b2
    rw [up_n (by decide), e9] at t5
    have b3 := Bd_up (i := 15) b2 (lt640 hN.2.1)
    have t6 := m_shiftUp (d := d + 1) (σ := σ) (nv := up (up nv 14 N) 15 q) (sd := sd) (g := g) (i := 15) (n := c) N15 b3 (by omega) (by rw [up_s, ← eD]; exact l640 D400)
    rw [up_s, up_up, ← eD] at t6
    have b4 := Bd_up (i := 15) b2 (l640 D400)
    have v14 : up (up nv 14 N) 15 D 14 = N := by rw [up_n (by decide), up_s]
    have v15 : up (up nv 14 N) 15 D 15 = D := up_s _ _ _
    obtain ⟨y, hy, t7⟩ := m_div (d := d) (D := 3) (σ := σ) (nv := up (up nv 14 N) 15 D) (sd := sd) (g := g) (i := 14) (k := 15) D3 N14 N15 (by decide) (by decide) (by decide) (by decide) (by decide) b4 (by rw [v14]; exact N400)
    rw [f30, f31, f32, v14, v15] at t7
    obtain ⟨nv5, h5⟩ : ∃ nv5, nv5 = up (up (up (up (up nv 14 N) 15 D) 16 (N / D)) 17 (N % D)) 18 y := ⟨_, rfl⟩
    rw [← h5] at t7
    have b5 : Bd nv5 := by rw [h5]; exact Bd_up (Bd_up (Bd_up b4 (Nat.lt_of_le_of_lt (Nat.div_le_self _ _) (l640 N400))) (Nat.lt_of_le_of_lt (Nat.mod_le _ _) (l640 N400))) hy
    have v16 : nv5 16 = N / D := by rw [h5, up_n (by decide), up_n (by decide), up_s]
    have v17 : nv5 17 = N % D := by rw [h5, up_n (by decide), up_s]
    have t8 := m_isZero (d := d + 2) (σ := σ) (nv := nv5) (sd := sd) (g := g) (i := 17) N17 b5
    rw [v17] at t8
    have t9 := m_lowest (d := d + 2) (σ := σ) (nv := nv5) (sd := sd) (g := g) (i := 16) N16 b5
    rw [v16, Nat.mod_eq_of_lt (by omega)] at t9
    have t10 := f_enc (d := d + 1) (S := KS σ nv5 sd g) (x := x) (N := N) (D := D) (dir := dir) (b := decide (s < 0)) (z := -z) hx hD0 (by omega) (by omega) (by omega) (by omega) hdir (fun _ => by omega)
    -- the value
    have hv : encV x (decide (s < 0)) dir (N * 2 ^ (-z + fz x).toNat) (D * 2 ^ (-(-z + fz x)).toNat) = encV x (decide (s < 0)) dir (p * 2 ^ fz x) q := by
      have e1 : N * 2 ^ (-z + fz x).toNat = p * 2 ^ fz x * 2 ^ (c + (-(-z + fz x)).toNat) := by
        rw [eN, Nat.mul_assoc, Nat.mul_assoc, ← Nat.pow_add, ← Nat.pow_add]
        congr 2
        omega
      have e2 : D * 2 ^ (-(-z + fz x)).toNat = q * 2 ^ (c + (-(-z + fz x)).toNat) := by
        rw [eD, Nat.mul_assoc, ← Nat.pow_add]
      rw [e1, e2, encV_scale hq (Nat.two_pow_pos _)]
    rw [hv] at t10
    refine ⟨nv5, b5, ?_⟩
    refine b71_0 k0 k5 (fun _ => ?_) (fun w => ?_)
    · refine b71_12 k0 k5 N8.k t1 (b71_24 k0 k5 N9.k t2 (b71_34 k0 k5 N14.k t3 ?_))
      have ez : (55 : Int32) - (nI (bln p) - nI (bln q)) = iZ z := by
        rw [sub_iZ, show (55 : Int32) = iZ 55 from rfl, iZ_sub, hz]
      have em : (if iZ z < 0 then (0 : Int32) else iZ z) = nI a := by
        rw [iZ0, ← iZ_N]
        by_cases w : z < 0
        · rw [if_pos ((iZ_lt (by omega) (by omega) (by decide) (by decide)).mpr w)]; congr 1; omega
        · rw [if_neg (fun v => w ((iZ_lt (by omega) (by omega) (by decide) (by decide)).mp v))]; congr 1; omega
      have em2 : (if -iZ z < 0 then (0 : Int32) else -iZ z) = nI c := by
        rw [iZ_neg, iZ0, ← iZ_N]
        by_cases w : -z < 0
        · rw [if_pos ((iZ_lt (by omega) (by omega) (by decide) (by decide)).mpr w)]; congr 1; omega
        · rw [if_neg (fun v => w ((iZ_lt (by omega) (by omega) (by decide) (by decide)).mp v))]; congr 1; omega
      rw [ez]
      refine b71_51 k0 N14.k (by rw [em]; exact t4) (b71_63 k0 k5 N15.k t5 (b71_77 k0 N15.k (by rw [em2]; exact t6) (b71_90 k0 k3 t7 (b71_105 k0 k3 N17.k t8 ?_))))
      have fin : ∀ r : Int32, r = (if N % D ≠ 0 then 1 else 0) → Er (d + 4) 71 (123, [some (.ref 0), some (.ref x), some (.int (nI dir)), some (.int (iZ z)), none], [.int r], KS σ nv5 sd g) (.inl (some (.long (lN (encV x (decide (s < 0)) dir (p * 2 ^ fz x) q + sbit x (decide (s < 0)))))), KS σ nv5 sd g, 0) := by
        intro r hr
        subst hr
        refine b71_123 k0 k5 (fun w => ?_) (fun w => ?_)
        · rw [g5, iz_ge0 (by omega) (by omega)] at w
          have ed : decide (s < 0) = false := by simp; omega
          rw [ed] at t10 ⊢
          exact b71_140 (b71_141 k0 k3 N16.k t9 (b71_151 hx (by rw [iZ_neg]; exact t10) b71_159))
        · rw [g5, iz_ge0 (by omega) (by omega)] at w
          have ed : decide (s < 0) = true := by simp; omega
          rw [ed] at t10 ⊢
          exact b71_136 (b71_141 k0 k3 N16.k t9 (b71_151 hx (by rw [iZ_neg]; exact t10) b71_159))
      by_cases r0 : N % D = 0
      · rw [if_pos r0]
        exact b71_115 (fun _ => b71_122 (fin 0 (by rw [if_neg (fun w => w r0)]))) (fun w => absurd w (by decide))
      · rw [if_neg r0]
        exact b71_115 (fun w => absurd rfl w) (fun _ => b71_118 (fin 1 (by rw [if_pos r0])))
    · rw [g5, iZ0] at w
      exact absurd ((iz_eq (by omega) (by omega) (by decide) (by decide)).mp w) hs0
theorem x_dir {dir : Nat} {S : St} (h : dir < 4) : Er (d + 1) 70 (0, ent 70 [.ref 0, .int (nI dir)], [], S) (.inl none, S, 0) :=
  b70_0 (fun z => absurd z (nI_pos (by omega))) (fun _ => b70_4 (fun _ => b70_19) (fun z => absurd (nI_le (b := 3) (by omega) (by decide)) z))
theorem x_dirx {x : Int32} {S : St} (h : ¬ ∃ dir, dir < 4 ∧ x = nI dir) : Er (d + 6) 70 (0, ent 70 [.ref 0, .int x], [], S) (.inr 1, S, 1) := by
  refine b70_0 (fun _ => b70_9) (fun z => b70_4 (fun w => ?_) (fun _ => b70_9))
  obtain ⟨j, hj, rfl⟩ := nI_of z
  rw [show (3 : Int32) = nI 3 from rfl, nI_leI hj (by decide)] at w
  exact absurd ⟨j, by omega, rfl⟩ h
theorem x_nearest {a dir : Nat} (hD : Db n sg P Q) (hC : CD σ n sg P Q) (ha : a < n) (hdir : dir < 4) : Cl (d + 5) 69 [.ref 0, .int (nI a), .int (nI dir)] σ (.inl (some (.long (lN (fmtV 46 (sg a) (P a) (Q a) dir))))) σ := by
  intro nv sd g hb
  have hn : gfi (KS σ nv sd g) 0 2 = nI n := by rw [KS_fi (by decide)]; exact hC.1
  obtain ⟨nv2, b2, hE⟩ := x_format (d := d) (σ := σ) (g := g) O46 hdir (x_R1 (sd := sd) hD ha hb) (hD.num ha)
  exact ⟨nv2, _, g, 0, b2, by decide, b69_0 k0 (x_need hn hD.1 ha) (b69_5 k0 (x_dir hdir) (b69_10 k0 (x_read (r := 5) hD hC ha ⟨by decide, by decide⟩ hb) (b69_19 k0 hE b69_27)))⟩
theorem x_single {a dir : Nat} (hD : Db n sg P Q) (hC : CD σ n sg P Q) (ha : a < n) (hdir : dir < 4) : Cl (d + 5) 72 [.ref 0, .int (nI a), .int (nI dir)] σ (.inl (some (.int (nI (fmtV 47 (sg a) (P a) (Q a) dir))))) σ := by
  intro nv sd g hb
  have hn : gfi (KS σ nv sd g) 0 2 = nI n := by rw [KS_fi (by decide)]; exact hC.1
  obtain ⟨nv2, b2, hE⟩ := x_format (d := d) (σ := σ) (g := g) O47 hdir (x_R1 (sd := sd) hD ha hb) (hD.num ha)
  refine ⟨nv2, upi sd 5 (iZ (sg a)), g, 0, b2, by decide, b72_0 k0 (x_need hn hD.1 ha) (b72_5 k0 (x_dir hdir) (b72_10 k0 (x_read (r := 5) hD hC ha ⟨by decide, by decide⟩ hb) (b72_19 k0 hE ?_)))⟩
  have t := b72_27 (d := d + 4) (x0 := 0) (x1 := nI a) (x2 := nI dir) (s0 := lN (fmtV 47 (sg a) (P a) (Q a) dir)) (σ := KS σ nv2 (upi sd 5 (iZ (sg a))) g)
  rw [lN_i] at t
  exact t
theorem x_nearestx0 {x1 x2 : Int32} (hD : Db n sg P Q) (hC : CD σ n sg P Q) (h : ¬ ∃ a, a < n ∧ x1 = nI a) : Cl (d + 7) 69 [.ref 0, .int x1, .int x2] σ (.inr 0) σ := by
  intro nv sd g hb
  have hn : gfi (KS σ nv sd g) 0 2 = nI n := by rw [KS_fi (by decide)]; exact hC.1
  exact ⟨nv, sd, g, 1, hb, by decide, b69_0x k0 (by decide) (x_needx (d := d) hn hD.1 h)⟩
theorem x_nearestx1 {a : Nat} {x2 : Int32} (hD : Db n sg P Q) (hC : CD σ n sg P Q) (ha : a < n) (h : ¬ ∃ dir, dir < 4 ∧ x2 = nI dir) : Cl (d + 7) 69 [.ref 0, .int (nI a), .int x2] σ (.inr 1) σ := by
  intro nv sd g hb
  have hn : gfi (KS σ nv sd g) 0 2 = nI n := by rw [KS_fi (by decide)]; exact hC.1
  exact ⟨nv, sd, g, 1, hb, by decide, b69_0 k0 (x_need hn hD.1 ha) (b69_5x k0 (by decide) (x_dirx (d := d) h))⟩
theorem x_singlex0 {x1 x2 : Int32} (hD : Db n sg P Q) (hC : CD σ n sg P Q) (h : ¬ ∃ a, a < n ∧ x1 = nI a) : Cl (d + 7) 72 [.ref 0, .int x1, .int x2] σ (.inr 0) σ := by
  intro nv sd g hb
  have hn : gfi (KS σ nv sd g) 0 2 = nI n := by rw [KS_fi (by decide)]; exact hC.1
  exact ⟨nv, sd, g, 1, hb, by decide, b72_0x k0 (by decide) (x_needx (d := d) hn hD.1 h)⟩
theorem x_singlex1 {a : Nat} {x2 : Int32} (hD : Db n sg P Q) (hC : CD σ n sg P Q) (ha : a < n) (h : ¬ ∃ dir, dir < 4 ∧ x2 = nI dir) : Cl (d + 7) 72 [.ref 0, .int (nI a), .int x2] σ (.inr 1) σ := by
  intro nv sd g hb
  have hn : gfi (KS σ nv sd g) 0 2 = nI n := by rw [KS_fi (by decide)]; exact hC.1
  exact ⟨nv, sd, g, 1, hb, by decide, b72_0 k0 (x_need hn hD.1 ha) (b72_5x k0 (by decide) (x_dirx (d := d) h))⟩
end
