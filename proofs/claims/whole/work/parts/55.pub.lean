/-! NumberModels: real and meets -/
theorem fsi_lt {x n : Nat} (h : FO x) : fsi x n < 2 ^ (fb x + 1) := by
  have h1 : n % 2 ^ fb x < 2 ^ fb x := Nat.mod_lt _ (Nat.two_pow_pos _)
  unfold fsi
  rw [Nat.pow_succ]
  split <;> omega
theorem fsi_53 {n : Nat} : fsi 46 n < 2 ^ 53 := fsi_lt (n := n) O46
theorem fsc_rng {n : Nat} : -1074 ≤ fsc 46 n ∧ fsc 46 n ≤ 972 := by
  have := fex_lt (n := n) O46
  have e1 : fe 46 = 2047 := rfl
  have e2 : fz 46 = 1074 := rfl
  unfold fsc
  omega
theorem fsi_0 {x n : Nat} (h : FO x) : fsi x n = 0 ↔ fsz x n = 0 := by
  obtain ⟨h1, h2, h3, _⟩ := h.s
  have hp := Nat.two_pow_pos (fb x)
  have e : fsz x n = 2 ^ fb x * fex x n + n % 2 ^ fb x := by
    unfold fsz fex
    have := Nat.div_add_mod (n % 2 ^ fs x) (2 ^ fb x)
    have d : n % 2 ^ fs x % 2 ^ fb x = n % 2 ^ fb x := Nat.mod_mod_of_dvd n (Nat.pow_dvd_pow 2 (by omega))
    rw [d] at this
    exact this.symm
  rw [e]
  unfold fsi
  by_cases c : fex x n = 0
  · rw [if_pos c, c, Nat.mul_zero, Nat.zero_add]
  · rw [if_neg c]
    have := Nat.mul_pos hp (Nat.pos_of_ne_zero c)
    omega
section
variable {d n : Nat} {σ : St} {sg : Nat → Int} {P Q : Nat → Nat}
def realT (v : Nat) : Int × Nat × Nat := mk3 (if fsg 46 v = 1 then -1 else 1, fsi 46 v * 2 ^ (fsc 46 v).toNat, 2 ^ (-(fsc 46 v)).toNat)
theorem x_realx {v : Nat} (hv : v < 2 ^ 64) (h : ¬ fsz 46 v < fe 46 * 2 ^ fb 46) : Cl (d + 6) 47 [.ref 0, .long (lN v)] σ (.inr 2) σ := by
  intro nv sd g hb
  refine ⟨nv, sd, g, 1, hb, by decide, b47_0 O46 (f_fin O46 hv) (b47_7 (fun z => ?_) (fun _ => b47_10))⟩
  rw [if_neg h] at z
  exact absurd rfl z
theorem x_real {v : Nat} (hD : Db n sg P Q) (hC : CD σ n sg P Q) (hv : v < 2 ^ 64) (h : fsz 46 v < fe 46 * 2 ^ fb 46) : Cl (d + 8) 47 [.ref 0, .long (lN v)] σ (addQ n (realT v)) (addS σ n (realT v)) := by
  intro nv sd g hb
  obtain ⟨z1, z2⟩ := fsc_rng (n := v)
  have hm := fsi_53 (n := v)
  obtain ⟨m, em⟩ : ∃ m, m = fsi 46 v := ⟨_, rfl⟩
  obtain ⟨z, ez⟩ : ∃ z, z = fsc 46 v := ⟨_, rfl⟩
  obtain ⟨s, es⟩ : ∃ s : Int, s = if fsg 46 v = 1 then -1 else 1 := ⟨_, rfl⟩
  rw [← em] at hm
  rw [← ez] at z1 z2
  have eT : realT v = mk3 (s, m * 2 ^ z.toNat, 2 ^ (-z).toNat) := by unfold realT; rw [← em, ← ez, ← es]
  have t1 := f_fin (d := d + 5) (S := KS σ nv sd g) O46 hv
  rw [if_pos h] at t1
  have t2 := f_sig (d := d + 4) (S := KS σ nv sd g) O46 hv
  rw [← em] at t2
  have m640 : m < 2 ^ 640 := l640 (lt64 (Nat.lt_trans hm (by decide)))
  have b1 := Bd_up (i := 12) hb m640
  have b2 := Bd_up (i := 13) (v := 1) b1 (Nat.one_lt_two_pow (by decide))
  have t3 := m_takeJ (d := d + 5) (σ := σ) (nv := nv) (sd := sd) (g := g) (i := 12) (n := m) N12 hb (Nat.lt_trans hm (by decide))
  have t4 := m_takeJ (d := d + 5) (σ := σ) (nv := up nv 12 m) (sd := sd) (g := g) (i := 13) (n := 1) N13 b1 (by decide)
  obtain ⟨nv1, h1⟩ : ∃ nv1, nv1 = up (up nv 12 m) 13 1 := ⟨_, rfl⟩
  rw [← h1] at t4 b2
  have v12 : nv1 12 = m := by rw [h1, up_n (by decide), up_s]
  have v13 : nv1 13 = 1 := by rw [h1, up_s]
  have t5 := m_isZero (d := d + 6) (σ := σ) (nv := nv1) (sd := sd) (g := g) (i := 12) N12 b2
  rw [v12] at t5
  obtain ⟨s0, hs0⟩ : ∃ s0 : Int, s0 = if m = 0 then 0 else s := ⟨_, rfl⟩
  have t7 := f_scale (d := d + 4) (S := KS σ nv1 (upi sd 7 (iZ s0)) g) O46 hv
  rw [← ez] at t7
  have pre : ∀ {q : Rs}, Er (d + 8) 47 (90, [some (.ref 0), some (.long (lN v)), none], [.int (iZ z), .ref 7], KS σ nv1 (upi sd 7 (iZ s0)) g) q → Er (d + 8) 47 (0, ent 47 [.ref 0, .long (lN v)], [], KS σ nv sd g) q := by
    intro q hq
    refine b47_0 O46 t1 (b47_7 (fun _ => ?_) (fun w => absurd w (by decide)))
    refine b47_20 k0 k7 O46 t2 (b47_34 N12.k t3 (b47_37 k0 k7 N13.k t4 (b47_48 k0 k7 N12.k t5 ?_)))
    have fin : Er (d + 8) 47 (76, [some (.ref 0), some (.long (lN v)), none], [.int (iZ s0), .ref (fr 0 5)], KS σ nv1 sd g) q := by
      refine b47_76 (σ2 := KS σ nv1 (upi sd 7 (iZ s0)) g) (r := iZ z) k7s k0 O46 ?_ hq
      rw [f05, KS_ssd (by decide)]
      exact t7
    by_cases c : m = 0
    · rw [if_pos c] at hs0 ⊢
      rw [hs0] at fin
      exact b47_62 (fun w => absurd w (by decide)) (fun _ => b47_65 fin)
    · rw [if_neg c] at hs0 ⊢
      have t6 := f_side (d := d + 5) (S := KS σ nv1 sd g) O46 hv
      have e6 : (if fsg 46 v = 1 then (-1 : Int32) else 1) = iZ s0 := by
        rw [hs0, es]
        split <;> rfl
      rw [e6] at t6
      exact b47_62 (fun _ => b47_69 O46 t6 fin) (fun w => absurd rfl w)
  rw [eT]
  by_cases hm0 : m = 0
  · have e : mk3 (s, m * 2 ^ z.toNat, 2 ^ (-z).toNat) = (0, 0, 1) := by
      unfold mk3
      simp only
      rw [hm0, Nat.zero_mul, if_pos rfl, Nat.zero_div, Nat.gcd_zero_left, Nat.div_self (Nat.two_pow_pos _)]
    rw [if_pos hm0] at hs0
    have t8 := r_times0 (d := d + 6) (σ := σ) (nv := nv1) (sd := upi sd 7 (iZ s0)) (g := g) (x := iZ z) (by rw [upi_s, hs0]; rfl)
    rw [e]
    have hM : Mad nv1 (upi sd 7 (iZ s0)) ((0, 0, 1) : Int × Nat × Nat).1 ((0, 0, 1) : Int × Nat × Nat).2.1 ((0, 0, 1) : Int × Nat × Nat).2.2 := ⟨b2, by rw [v12, hm0], v13, by rw [upi_s, hs0]⟩
    exact x_end hC.1 hD.1 hM (fun t => pre (b47_90 k7 t8 (b47_93 k0 t b47_97))) (fun t => pre (b47_90 k7 t8 (b47_93x k0 (by decide) t)))
  · rw [if_neg hm0] at hs0
    have s3 : s = 1 ∨ s = -1 := by rw [es]; split <;> omega
    have s7n : upi sd 7 (iZ s0) 7 ≠ 0 := by
      rw [upi_s, hs0, iZ0]
      intro c
      have := (iz_eq (by omega) (by omega) (by decide) (by decide)).mp c
      omega
    by_cases hz : 0 < z
    · have tr := r_times (d := d + 1) (σ := σ) (nv := nv1) (sd := upi sd 7 (iZ s0)) (g := g) (z := z) (gr := 12) (sh := 13) (t := 0) (m := 0) (by omega) (by omega) s7n (Or.inl ⟨hz, rfl, rfl⟩) b2 v13
      rw [Nat.min_zero, Nat.sub_zero, v12, v13, Nat.pow_zero, Nat.div_one] at tr
      have e : mk3 (s, m * 2 ^ z.toNat, 2 ^ (-z).toNat) = (s, m * 2 ^ z.natAbs, 1) := by
        unfold mk3
        simp only
        have : m * 2 ^ z.toNat ≠ 0 := Nat.pos_iff_ne_zero.mp (Nat.mul_pos (Nat.pos_of_ne_zero hm0) (Nat.two_pow_pos _))
        rw [if_neg this, show (-z).toNat = 0 by omega, Nat.pow_zero, Nat.gcd_one_right, Nat.div_one, Nat.div_one, show z.toNat = z.natAbs by omega]
      rw [e]
      have bl : bln (m * 2 ^ z.natAbs) = bln m + z.natAbs := bln_mul (Nat.pos_of_ne_zero hm0)
      by_cases hc : 256 < bln m + z.natAbs
      · rw [if_pos hc] at tr
        have e1 : addQ n (s, m * 2 ^ z.natAbs, 1) = .inr 3 := if_neg (by simp only; rw [bl]; omega)
        have e2 : addS σ n (s, m * 2 ^ z.natAbs, 1) = σ := if_neg (by simp only; rw [bl]; omega)
        rw [e1, e2]
        exact ⟨nv1, _, g, 1, b2, by decide, pre (b47_90x k7 (by decide) tr)⟩
      · rw [if_neg hc] at tr
        have h8 : m * 2 ^ z.natAbs < Bp 8 := b256.mp (by rw [bl]; omega)
        have hM : Mad (up (up nv1 13 1) 12 (m * 2 ^ z.natAbs)) (upi sd 7 (iZ s0)) ((s, m * 2 ^ z.natAbs, 1) : Int × Nat × Nat).1 ((s, m * 2 ^ z.natAbs, 1) : Int × Nat × Nat).2.1 ((s, m * 2 ^ z.natAbs, 1) : Int × Nat × Nat).2.2 := ⟨Bd_up (Bd_up b2 (Nat.one_lt_two_pow (by decide))) (lt640 h8), up_s _ _ _, by rw [up_n (by decide), up_s], by rw [upi_s, hs0]⟩
        exact x_end hC.1 hD.1 hM (fun t => pre (b47_90 k7 tr (b47_93 k0 t b47_97))) (fun t => pre (b47_90 k7 tr (b47_93x k0 (by decide) t)))
    · obtain ⟨t, k, htk⟩ := twos m (Nat.pos_of_ne_zero hm0)
      have tr := r_times (d := d + 1) (σ := σ) (nv := nv1) (sd := upi sd 7 (iZ s0)) (g := g) (z := z) (gr := 13) (sh := 12) (t := t) (m := k) (by omega) (by omega) s7n (Or.inr ⟨by omega, rfl, rfl⟩) b2 (by rw [v12]; exact htk)
      rw [v12, v13, Nat.one_mul] at tr
      obtain ⟨e1, e2⟩ := two_eq (s := s) (gr := 1) (sh := m) (n := z.natAbs) (Nat.gcd_one_left m) htk
      rw [Nat.one_mul] at e1 e2
      have e : mk3 (s, m * 2 ^ z.toNat, 2 ^ (-z).toNat) = (s, m / 2 ^ min z.natAbs t, 2 ^ (z.natAbs - min z.natAbs t)) := by
        unfold mk3
        simp only
        rw [show z.toNat = 0 by omega, show (-z).toNat = z.natAbs by omega, Nat.pow_zero, Nat.mul_one, if_neg hm0, Nat.gcd_comm, e1, e2, Nat.one_mul]
      rw [e]
      have bl : bln (2 ^ (z.natAbs - min z.natAbs t)) = 1 + (z.natAbs - min z.natAbs t) := by rw [bln_pow]; omega
      have b1' : bln 1 = 1 := rfl
      rw [b1'] at tr
      by_cases hc : 256 < 1 + (z.natAbs - min z.natAbs t)
      · rw [if_pos hc] at tr
        have e1 : addQ n (s, m / 2 ^ min z.natAbs t, 2 ^ (z.natAbs - min z.natAbs t)) = .inr 3 := if_neg (by simp only; rw [bl]; omega)
        have e2 : addS σ n (s, m / 2 ^ min z.natAbs t, 2 ^ (z.natAbs - min z.natAbs t)) = σ := if_neg (by simp only; rw [bl]; omega)
        rw [e1, e2]
        exact ⟨nv1, _, g, 1, b2, by decide, pre (b47_90x k7 (by decide) tr)⟩
      · rw [if_neg hc] at tr
        have h8 : 2 ^ (z.natAbs - min z.natAbs t) < Bp 8 := b256.mp (by rw [bl]; omega)
        have hM : Mad (up (up nv1 12 (m / 2 ^ min z.natAbs t)) 13 (2 ^ (z.natAbs - min z.natAbs t))) (upi sd 7 (iZ s0)) ((s, m / 2 ^ min z.natAbs t, 2 ^ (z.natAbs - min z.natAbs t)) : Int × Nat × Nat).1 ((s, m / 2 ^ min z.natAbs t, 2 ^ (z.natAbs - min z.natAbs t)) : Int × Nat × Nat).2.1 ((s, m / 2 ^ min z.natAbs t, 2 ^ (z.natAbs - min z.natAbs t)) : Int × Nat × Nat).2.2 := ⟨Bd_up (Bd_up b2 (Nat.lt_of_le_of_lt (Nat.div_le_self _ _) m640)) (lt640 h8), by rw [up_n (by decide), up_s], up_s _ _ _, by rw [upi_s, hs0]⟩
        exact x_end hC.1 hD.1 hM (fun t => pre (b47_90 k7 tr (b47_93 k0 t b47_97))) (fun t => pre (b47_90 k7 tr (b47_93x k0 (by decide) t)))
def meetS (p q v : Nat) : Int := cz ((p * 2 ^ (-(fsc 46 v)).toNat : Nat) : Int) ((fsi 46 v * q * 2 ^ (fsc 46 v).toNat : Nat) : Int)
theorem cz_bln {a b : Nat} (h : bln a ≠ bln b) : cz (a : Int) (b : Int) = cz (bln a : Int) (bln b : Int) := by
  have mono : ∀ {a b : Nat}, bln a < bln b → a < b := by
    intro a b hl
    apply Nat.lt_of_not_le
    intro g
    have : bln b ≤ bln a := by
      rw [bln_le]
      exact Nat.lt_of_le_of_lt g bln_lt
    omega
  unfold cz
  rcases Nat.lt_or_gt_of_ne h with c | c
  · have := mono c
    rw [if_neg (by omega), if_pos (by omega), if_neg (by omega), if_pos (by omega)]
  · have := mono c
    rw [if_neg (by omega), if_neg (by omega), if_neg (by omega), if_neg (by omega)]
theorem x_compareSize {v p q : Nat} {s : Int} {nv : Nat → Nat} {sd : Nat → Int32} {g : Nat → Nat → Int64} (hv : v < 2 ^ 64) (hfin : fsz 46 v < fe 46 * 2 ^ fb 46) (h0 : fsz 46 v ≠ 0) (hR : R1 nv sd s p q) (hN : Num s p q) (hp : 0 < p) :
    ∃ nv2, Bd nv2 ∧ Er (d + 4) 68 (0, ent 68 [.ref 0, .long (lN v)], [], KS σ nv sd g) (.inl (some (.int (iZ (meetS p q v)))), KS σ nv2 sd g, 0) := by
  obtain ⟨hb, e8, e9, e5⟩ := hR
  obtain ⟨z1, z2⟩ := fsc_rng (n := v)
  have hm := fsi_53 (n := v)
  have hm0 : fsi 46 v ≠ 0 := fun c => h0 ((fsi_0 O46).mp c)
  unfold meetS
  obtain ⟨m, em⟩ : ∃ m, m = fsi 46 v := ⟨_, rfl⟩
  obtain ⟨z, ez⟩ : ∃ z, z = fsc 46 v := ⟨_, rfl⟩
  rw [← em] at hm hm0 ⊢
  rw [← ez] at z1 z2 ⊢
  have hq := hN.2.2.1
  have t1 := f_fin (d := d + 1) (S := KS σ nv sd g) O46 hv
  rw [if_pos hfin] at t1
  have t2 := f_sig (d := d) (S := KS σ nv sd g) O46 hv
  rw [← em] at t2
  have m640 : m < 2 ^ 640 := l640 (lt64 (Nat.lt_trans hm (by decide)))
  have b1 := Bd_up (i := 14) hb m640
  have t3 := m_takeJ (d := d + 1) (σ := σ) (nv := nv) (sd := sd) (g := g) (i := 14) (n := m) N14 hb (Nat.lt_trans hm (by decide))
  have n1 : nd m ≤ 2 := nd_Bp.mpr (Nat.lt_trans hm (show 2 ^ 53 < 2 ^ (32 * 2) by decide))
  have n2 := nd8 hN.2.1
  have t4 := m_product (d := d + 1) (σ := σ) (nv := up nv 14 m) (sd := sd) (g := g) (i := 15) (k := 14) (l := 9) N15 N14 N9 (by decide) (by decide) b1 (by rw [up_s, up_n (by decide), e9]; omega)
  rw [up_s, up_n (by decide), e9] at t4
  have hm8 : m < Bp 8 := Nat.lt_trans hm (show 2 ^ 53 < 2 ^ (32 * 8) from Nat.pow_lt_pow_right (by decide) (by decide))
  have hmq := mul16 hm8 hN.2.1
  have b2 := Bd_up (i := 15) b1 (l640 (lt16 hmq))
  have t5 := m_takeN (d := d + 2) (σ := σ) (nv := up (up nv 14 m) 15 (m * q)) (sd := sd) (g := g) (i := 14) (k := 8) N14 N8 b2
  rw [up_n (by decide), up_n (by decide), e8] at t5
  obtain ⟨nv1, h1⟩ : ∃ nv1, nv1 = up (up (up nv 14 m) 15 (m * q)) 14 p := ⟨_, rfl⟩
  rw [← h1] at t5
  have b3 : Bd nv1 := by rw [h1]; exact Bd_up b2 (lt640 hN.1)
  have v14 : nv1 14 = p := by rw [h1, up_s]
  have v15 : nv1 15 = m * q := by rw [h1, up_n (by decide), up_s]
  have t6 := f_scale (d := d) (S := KS σ nv1 sd g) O46 hv
  rw [← ez] at t6
  have t7 := m_len (d := d + 1) (σ := σ) (nv := nv1) (sd := sd) (g := g) (i := 14) N14 b3
  have t8 := m_len (d := d + 1) (σ := σ) (nv := nv1) (sd := sd) (g := g) (i := 15) N15 b3
  rw [v14] at t7
  rw [v15] at t8
  have lp : bln p ≤ 256 := b256.mpr hN.1
  have hmq0 : 0 < m * q := Nat.mul_pos (Nat.pos_of_ne_zero hm0) hq
  have lmq : bln (m * q) ≤ 309 := by
    rw [bln_le]
    have h2 : m * q < 2 ^ 53 * 2 ^ (32 * 8) := Nat.mul_lt_mul_of_lt_of_le hm (Nat.le_of_lt hN.2.1) (Nat.two_pow_pos _)
    rw [← Nat.pow_add] at h2
    exact h2
  obtain ⟨a, ha⟩ : ∃ a : Nat, a = (-z).toNat := ⟨_, rfl⟩
  obtain ⟨c, hc⟩ : ∃ c : Nat, c = z.toNat := ⟨_, rfl⟩
  rw [← ha, ← hc]
  have ea : (if -iZ z < 0 then (0 : Int32) else -iZ z) = nI a := by
    rw [iZ_neg, iZ0, ← iZ_N]
    by_cases w : -z < 0
    · rw [if_pos ((iZ_lt (by omega) (by omega) (by decide) (by decide)).mpr w)]; congr 1; omega
    · rw [if_neg (fun v => w ((iZ_lt (by omega) (by omega) (by decide) (by decide)).mp v))]; congr 1; omega
  have ec : (if iZ z < 0 then (0 : Int32) else iZ z) = nI c := by
    rw [iZ0, ← iZ_N]
    by_cases w : z < 0
    · rw [if_pos ((iZ_lt (by omega) (by omega) (by decide) (by decide)).mpr w)]; congr 1; omega
    · rw [if_neg (fun v => w ((iZ_lt (by omega) (by omega) (by decide) (by decide)).mp v))]; congr 1; omega
  have bL : bln (p * 2 ^ a) = bln p + a := bln_mul hp
  have bR : bln (m * q * 2 ^ c) = bln (m * q) + c := bln_mul hmq0
  have t9 := c_compare (d := d + 2) (x := lN (bln p + a)) (y := lN (bln (m * q) + c)) (σ := KS σ nv1 sd g)
  rw [toInt_N (by omega), toInt_N (by omega), cmpI_cz] at t9
  have run : ∀ {r : Rs}, Er (d + 4) 68 (106, [some (.ref 0), some (.long (lN v)), none, some (.int (iZ z)), some (.int (nI a)), some (.int (nI c)), none], [.int (iZ (cz ((bln p + a : Nat) : Int) ((bln (m * q) + c : Nat) : Int)))], KS σ nv1 sd g) r → Er (d + 4) 68 (0, ent 68 [.ref 0, .long (lN v)], [], KS σ nv sd g) r := by
    intro r hr
    refine b68_0 O46 t1 (b68_7 (fun _ => ?_) (fun w => absurd w (by decide)))
    refine b68_12 k0 O46 t2 (b68_23 N14.k t3 (b68_26 k0 k5 N15.k t4 (b68_44 k0 k5 N14.k t5 (b68_58 O46 t6 (b68_65 k0 N14.k t7 ?_)))))
    rw [ea, ec]
    refine b68_88 k0 N15.k t8 (b68_99 (r := iZ (cz ((bln p + a : Nat) : Int) ((bln (m * q) + c : Nat) : Int))) (σ2 := KS σ nv1 sd g) ?_ hr)
    rw [nI_add, nI_add, nI_l (by omega), nI_l (by omega)]
    exact t9
  have hcz : ∀ a b : Int, cz a b = 0 ∨ cz a b = -1 ∨ cz a b = 1 := by
    intro a b
    unfold cz
    split
    · exact Or.inl rfl
    · split
      · exact Or.inr (Or.inl rfl)
      · exact Or.inr (Or.inr rfl)
  by_cases heq : bln p + a = bln (m * q) + c
  · have L640 : p * 2 ^ a < 2 ^ 600 := Nat.lt_of_lt_of_le bln_lt (Nat.pow_le_pow_right (by decide) (by omega))
    have R640 : m * q * 2 ^ c < 2 ^ 600 := Nat.lt_of_lt_of_le bln_lt (Nat.pow_le_pow_right (by decide) (by omega))
    have t10 := m_shiftUp (d := d + 1) (σ := σ) (nv := nv1) (sd := sd) (g := g) (i := 14) (n := a) N14 b3 (by omega) (by rw [v14]; exact l640 L640)
    rw [v14] at t10
    have b4 := Bd_up (i := 14) b3 (l640 L640)
    have t11 := m_shiftUp (d := d + 1) (σ := σ) (nv := up nv1 14 (p * 2 ^ a)) (sd := sd) (g := g) (i := 15) (n := c) N15 b4 (by omega) (by rw [up_n (by decide), v15]; exact l640 R640)
    rw [up_n (by decide), v15] at t11
    have b5 := Bd_up (i := 15) b4 (l640 R640)
    have t12 := m_cmp (d := d + 1) (σ := σ) (nv := up (up nv1 14 (p * 2 ^ a)) 15 (m * q * 2 ^ c)) (sd := sd) (g := g) (i := 14) (k := 15) N14 N15 b5
    rw [up_s, up_n (by decide), up_s, cmpI_cz] at t12
    refine ⟨_, b5, run ?_⟩
    have e0 : cz ((bln p + a : Nat) : Int) ((bln (m * q) + c : Nat) : Int) = 0 := if_pos (by omega)
    rw [e0]
    exact b68_106 (fun _ => b68_116 k0 N14.k t10 (b68_125 k0 N15.k t11 (b68_134 k0 N14.k t12 b68_145))) (fun w => absurd rfl w)
  · refine ⟨nv1, b3, run ?_⟩
    have ecz : cz ((p * 2 ^ a : Nat) : Int) ((m * q * 2 ^ c : Nat) : Int) = cz ((bln p + a : Nat) : Int) ((bln (m * q) + c : Nat) : Int) := by
      rw [cz_bln (by rw [bL, bR]; exact heq), bL, bR]
    rw [ecz]
    refine b68_106 (fun w => ?_) (fun _ => b68_113)
    rw [iZ0] at w
    have hr := hcz ((bln p + a : Nat) : Int) ((bln (m * q) + c : Nat) : Int)
    have w2 := (iz_eq (by omega) (by omega) (by decide) (by decide)).mp w
    unfold cz at w2
    rw [if_neg (by omega)] at w2
    split at w2 <;> omega
def meetZ (s : Int) (p q v : Nat) : Int := if fe 46 * 2 ^ fb 46 < fsz 46 v then 2 else if fsz 46 v = fe 46 * 2 ^ fb 46 then (if fsg 46 v = 1 then 1 else -1) else if s = (if fsz 46 v = 0 then 0 else if fsg 46 v = 1 then -1 else 1) then s * meetS p q v else cz s (if fsz 46 v = 0 then 0 else if fsg 46 v = 1 then -1 else 1)
theorem x_meetsx {x1 : Int32} {y : Int64} (hD : Db n sg P Q) (hC : CD σ n sg P Q) (h : ¬ ∃ a, a < n ∧ x1 = nI a) : Cl (d + 7) 67 [.ref 0, .int x1, .long y] σ (.inr 0) σ := by
  intro nv sd g hb
  have hn : gfi (KS σ nv sd g) 0 2 = nI n := by rw [KS_fi (by decide)]; exact hC.1
  exact ⟨nv, sd, g, 1, hb, by decide, b67_0x k0 (by decide) (x_needx (d := d) hn hD.1 h)⟩
theorem x_meets {a v : Nat} (hD : Db n sg P Q) (hC : CD σ n sg P Q) (ha : a < n) (hv : v < 2 ^ 64) : Cl (d + 5) 67 [.ref 0, .int (nI a), .long (lN v)] σ (.inl (some (.int (iZ (meetZ (sg a) (P a) (Q a) v))))) σ := by
  intro nv sd g hb
  have hn : gfi (KS σ nv sd g) 0 2 = nI n := by rw [KS_fi (by decide)]; exact hC.1
  have hN := hD.num ha
  have hs := hN.s
  have t1 := f_nan (d := d + 2) (S := KS σ nv sd g) O46 hv
  unfold meetZ
  by_cases hnan : fe 46 * 2 ^ fb 46 < fsz 46 v
  · rw [if_pos hnan] at t1 ⊢
    exact ⟨nv, sd, g, 0, hb, by decide, b67_0 k0 (x_need hn hD.1 ha) (b67_5 O46 t1 (b67_12 (fun w => absurd w (by decide)) (fun _ => b67_15)))⟩
  · rw [if_neg hnan] at t1 ⊢
    have hR := x_R1 (sd := sd) hD ha hb
    obtain ⟨nv1, h1⟩ : ∃ nv1, nv1 = up (up nv 8 (P a)) 9 (Q a) := ⟨_, rfl⟩
    obtain ⟨sd1, h2⟩ : ∃ sd1, sd1 = upi sd 5 (iZ (sg a)) := ⟨_, rfl⟩
    have tr := x_read (d := d + 1) (σ := σ) (sd := sd) (g := g) (r := 5) hD hC ha ⟨by decide, by decide⟩ hb
    rw [f50, f51, ← h1, ← h2] at tr
    rw [← h1, ← h2] at hR
    have t2 := f_size (d := d + 3) (S := KS σ nv1 sd1 g) O46 hv
    obtain ⟨its, hits⟩ : ∃ its : Int, its = if fsz 46 v = 0 then 0 else if fsg 46 v = 1 then -1 else 1 := ⟨_, rfl⟩
    rw [← hits]
    have its3 : its = 0 ∨ its = 1 ∨ its = -1 := by
      rw [hits]
      split
      · exact Or.inl rfl
      · split
        · exact Or.inr (Or.inr rfl)
        · exact Or.inr (Or.inl rfl)
    have g5 : gfi (KS σ nv1 sd1 g) (fr 0 3) 2 = iZ (sg a) := by rw [f03, KS_sd (by decide), hR.2.2.2]
    have pre : ∀ {q : Rs}, (sg a = its → Er (d + 5) 67 (78, [some (.ref 0), some (.int (nI a)), some (.long (lN v)), none, some (.int (iZ its))], [], KS σ nv1 sd1 g) q) → (¬ sg a = its → Er (d + 5) 67 (63, [some (.ref 0), some (.int (nI a)), some (.long (lN v)), none, some (.int (iZ its))], [], KS σ nv1 sd1 g) q) → Er (d + 5) 67 (0, ent 67 [.ref 0, .int (nI a), .long (lN v)], [], KS σ nv sd g) q := by
      intro q hy hno
      refine b67_0 k0 (x_need hn hD.1 ha) (b67_5 O46 t1 (b67_12 (fun _ => ?_) (fun w => absurd rfl w)))
      refine b67_17 k0 tr (b67_26 O46 t2 ?_)
      have fin : Er (d + 5) 67 (49, [some (.ref 0), some (.int (nI a)), some (.long (lN v)), none, none], [.int (iZ its)], KS σ nv1 sd1 g) q := by
        refine b67_49 k0 k5 (fun w => ?_) (fun w => ?_)
        · rw [g5] at w
          exact hy ((iz_eq (by omega) (by omega) (by omega) (by omega)).mp w)
        · rw [g5] at w
          exact hno (fun c => w (by rw [c]))
      by_cases c : fsz 46 v = 0
      · rw [if_pos c] at hits
        rw [c]
        rw [hits] at fin
        exact b67_33 (fun w => absurd rfl w) (fun _ => b67_38 fin)
      · rw [if_neg c] at hits
        have t3 := f_side (d := d + 2) (S := KS σ nv1 sd1 g) O46 hv
        have e3 : (if fsg 46 v = 1 then (-1 : Int32) else 1) = iZ its := by
          rw [hits]
          split <;> rfl
        rw [e3] at t3
        refine b67_33 (fun _ => b67_42 O46 t3 fin) (fun w => ?_)
        exact absurd ((lN_inj (b := 0) (Nat.lt_trans (fsz_63 O46) (by decide)) (by decide)).mp w) c
    have cmpd : Er (d + 5) 67 (63, [some (.ref 0), some (.int (nI a)), some (.long (lN v)), none, some (.int (iZ its))], [], KS σ nv1 sd1 g) (.inl (some (.int (iZ (cz (sg a) its)))), KS σ nv1 sd1 g, 0) := by
      refine b67_63 (r := iZ (cz (sg a) its)) (σ2 := KS σ nv1 sd1 g) k0 k5 ?_ b67_77
      rw [g5, iZ_l (by omega) (by omega), iZ_l (by omega) (by omega)]
      have := c_compare (d := d + 3) (x := lZ (sg a)) (y := lZ its) (σ := KS σ nv1 sd1 g)
      rw [lZ_t (by omega) (by omega), lZ_t (by omega) (by omega), cmpI_cz] at this
      exact this
    by_cases hinf : fsz 46 v = fe 46 * 2 ^ fb 46
    · rw [if_pos hinf]
      have hnz : fsz 46 v ≠ 0 := by rw [hinf]; decide
      rw [if_neg hnz] at hits
      by_cases he : sg a = its
      · have t4 := f_fin (d := d + 1) (S := KS σ nv1 sd1 g) O46 hv
        rw [if_neg (by omega)] at t4
        have e : (if fsg 46 v = 1 then (1 : Int) else -1) = its * (-1) := by
          rw [hits]
          split <;> rfl
        refine ⟨nv1, sd1, g, 0, hR.1, by decide, pre (fun _ => ?_) (fun w => absurd he w)⟩
        rw [e, ← iZ_mul]
        refine b67_78 (fun _ => b67_87 k0 (b68_0 O46 t4 (b68_7 (fun w => absurd rfl w) (fun _ => b68_10))) (b67_94 b67_95)) (fun w => ?_)
        rw [iZ0] at w
        have := (iz_eq (by omega) (by omega) (by decide) (by decide)).mp w
        split at hits <;> omega
      · have e : (if fsg 46 v = 1 then (1 : Int) else -1) = cz (sg a) its := by
          unfold cz
          rw [if_neg he]
          by_cases c : fsg 46 v = 1
          · rw [if_pos c] at hits ⊢
            rw [if_neg (by omega)]
          · rw [if_neg c] at hits ⊢
            rw [if_pos (by omega)]
        rw [e]
        exact ⟨nv1, sd1, g, 0, hR.1, by decide, pre (fun w => absurd w he) (fun _ => cmpd)⟩
    · rw [if_neg hinf]
      by_cases he : sg a = its
      · rw [if_pos he]
        by_cases h0 : its = 0
        · refine ⟨nv1, sd1, g, 0, hR.1, by decide, pre (fun _ => ?_) (fun w => absurd he w)⟩
          rw [he, h0, Int.zero_mul]
          exact b67_78 (fun w => absurd rfl w) (fun _ => b67_83 b67_95)
        · have hz : fsz 46 v ≠ 0 := by
            intro c
            rw [if_pos c] at hits
            exact h0 hits
          have hp : 0 < P a := by
            obtain ⟨_, _, _, _, c⟩ := hN
            omega
          obtain ⟨nv2, hb2, hE⟩ := x_compareSize (d := d) (σ := σ) (g := g) hv (by omega) hz hR hN hp
          refine ⟨nv2, sd1, g, 0, hb2, by decide, pre (fun _ => ?_) (fun w => absurd he w)⟩
          rw [he, ← iZ_mul]
          refine b67_78 (fun _ => b67_87 k0 hE (b67_94 b67_95)) (fun w => ?_)
          rw [iZ0] at w
          exact absurd ((iz_eq (by omega) (by omega) (by decide) (by decide)).mp w) h0
      · rw [if_neg he]
        exact ⟨nv1, sd1, g, 0, hR.1, by decide, pre (fun w => absurd w he) (fun _ => cmpd)⟩
end
