/-! NumberModels: what calls tell -/
theorem toInt_un (x : Int64) : x.toInt = if un x < 2 ^ 63 then (un x : Int) else (un x : Int) - 2 ^ 64 := by
  have h := un_lt x
  by_cases c : un x < 2 ^ 63
  · rw [if_pos c]
    conv => lhs; rw [← lN_un x]
    exact toInt_N c
  · rw [if_neg c]
    have e : x = lZ ((un x : Int) - 2 ^ 64) := by
      apply un_inj
      have := un_lZ ((un x : Int) - 2 ^ 64)
      omega
    conv => lhs; rw [e]
    exact lZ_t (by omega) (by omega)
def wrapV (V b : Nat) (s : Bool) : Int64 := if s = true ∧ 2 ^ (b - 1) ≤ V % 2 ^ b then lZ ((V % 2 ^ b : Nat) - (2 ^ b : Nat) : Int) else lN (V % 2 ^ b)
theorem shl_mod (v : Int64) {a : Nat} (ha : a < 64) : un (v <<< ((nI a).toInt64 &&& 63)) = un v % 2 ^ (64 - a) * 2 ^ a := by
  rw [un_shl v a rfl ha, show (2 : Nat) ^ 64 = 2 ^ (64 - a) * 2 ^ a by rw [← Nat.pow_add, show 64 - a + a = 64 by omega], Nat.mul_mod_mul_right]
theorem wrap_u (v : Int64) {a : Nat} (ha : a < 64) : (((v <<< ((nI a).toInt64 &&& 63)).toUInt64 >>> ((nI a).toInt64.toUInt64 &&& Int64.toUInt64 63)).toInt64) = wrapV (un v) (64 - a) false := by
  apply un_inj
  unfold wrapV
  rw [if_neg (by simp), un_ushr _ a rfl ha, shl_mod v ha, Nat.mul_div_cancel _ (Nat.two_pow_pos a), un_lN']
  exact Nat.lt_of_le_of_lt (Nat.mod_le _ _) (un_lt v)
theorem wrap_s (v : Int64) {a : Nat} (ha : a < 64) : (v <<< ((nI a).toInt64 &&& 63)) >>> ((nI a).toInt64 &&& 63) = wrapV (un v) (64 - a) true := by
  apply Int64.toInt_inj.mp
  have hm := shl_mod v ha
  obtain ⟨low, hlow⟩ : ∃ low, low = un v % 2 ^ (64 - a) := ⟨_, rfl⟩
  have hl : low < 2 ^ (64 - a) := by rw [hlow]; exact Nat.mod_lt _ (Nat.two_pow_pos _)
  have hp : (2 : Nat) ^ (64 - a) = 2 * 2 ^ (64 - a - 1) := by rw [← Nat.pow_succ', show (64 - a - 1).succ = 64 - a by omega]
  have h63 : (2 : Nat) ^ 63 = 2 ^ (64 - a - 1) * 2 ^ a := by rw [← Nat.pow_add, show 64 - a - 1 + a = 63 by omega]
  have h64 : (2 : Nat) ^ 64 = 2 ^ (64 - a) * 2 ^ a := by rw [← Nat.pow_add, show 64 - a + a = 64 by omega]
  have le64 : (2 : Nat) ^ (64 - a) ≤ 2 ^ 64 := Nat.pow_le_pow_right (by decide) (by omega)
  have apos : (0 : Int) < ((2 ^ a : Nat) : Int) := by exact_mod_cast Nat.two_pow_pos a
  rw [← hlow] at hm
  rw [shr_I _ a rfl ha, toInt_un, hm]
  unfold wrapV
  rw [← hlow]
  have pe : (2 : Int) ^ a = ((2 ^ a : Nat) : Int) := by norm_cast
  by_cases c : 2 ^ (64 - a - 1) ≤ low
  · have c2 : ¬ low * 2 ^ a < 2 ^ 63 := by
      rw [h63]
      have := Nat.mul_le_mul_right (2 ^ a) c
      omega
    rw [if_neg c2, if_pos ⟨rfl, c⟩, lZ_t (by omega) (by omega), pe]
    have e : ((low * 2 ^ a : Nat) : Int) - 2 ^ 64 = ((low : Int) - ((2 ^ (64 - a) : Nat) : Int)) * ((2 ^ a : Nat) : Int) := by
      have : (2 : Int) ^ 64 = ((2 ^ (64 - a) : Nat) : Int) * ((2 ^ a : Nat) : Int) := by
        rw [← Int.natCast_mul, ← h64]
        norm_cast
      rw [this, Int.natCast_mul, Int.sub_mul]
    rw [e, Int.mul_ediv_cancel _ (by omega)]
  · have c2 : low * 2 ^ a < 2 ^ 63 := by
      rw [h63]
      exact Nat.mul_lt_mul_of_pos_right (by omega) (Nat.two_pow_pos a)
    have c3 : low < 2 ^ 63 := by
      have : low * 1 ≤ low * 2 ^ a := Nat.mul_le_mul_left _ (Nat.two_pow_pos a)
      omega
    rw [if_pos c2, if_neg (fun q => c q.2), toInt_N c3, pe, Int.natCast_mul, Int.mul_ediv_cancel _ (by omega)]
section
variable {d n : Nat} {σ : St} {sg : Nat → Int} {P Q : Nat → Nat}
theorem x_clear (hC : CD σ n sg P Q) : Cl (d + 1) 37 [.ref 0] σ (.inl (some (.int (nI n)))) (sfi σ 0 2 0) := by
  intro nv sd g hb
  refine ⟨nv, sd, g, 0, hb, by decide, ?_⟩
  have := b37_0 (d := d) (x0 := 0) (σ := KS σ nv sd g) k0 k0s
  rw [KS_fi (by decide), hC.1, KS_sfi (by decide)] at this
  exact this
theorem x_count (hC : CD σ n sg P Q) : Cl (d + 1) 38 [.ref 0] σ (.inl (some (.int (nI n)))) σ := by
  intro nv sd g hb
  refine ⟨nv, sd, g, 0, hb, by decide, ?_⟩
  have := b38_0 (d := d) (x0 := 0) (σ := KS σ nv sd g) k0
  rw [KS_fi (by decide), hC.1] at this
  exact this
def wordV (P Q : Nat → Nat) (a k : Nat) : Int64 := if k < 8 then lN (dg (P a) k) else lN (dg (Q a) (k - 8))
theorem x_word {a k : Nat} (hD : Db n sg P Q) (hC : CD σ n sg P Q) (ha : a < n) (hk : k < 16) : Cl (d + 2) 62 [.ref 0, .int (nI a), .int (nI k)] σ (.inl (some (.long (wordV P Q a k)))) σ := by
  intro nv sd g hb
  have hn : gfi (KS σ nv sd g) 0 2 = nI n := by rw [KS_fi (by decide)]; exact hC.1
  have h60 := hD.1
  refine ⟨nv, sd, g, 0, hb, by decide, b62_0 k0 (x_need hn hD.1 ha) (b62_5 (fun z => absurd z (nI_pos (by omega))) (fun _ => b62_9 (fun _ => ?_) (fun z => absurd (nI_lt (b := 16) hk (by decide)) z)))⟩
  have e : nI a * 16 + nI k = nI (a * 16 + k) := by rw [show (16 : Int32) = nI 16 from rfl, pk_mul, nI_add]
  have := b62_25 (d := d + 1) (x0 := 0) (x1 := nI a) (x2 := nI k) (σ := KS σ nv sd g) k0 ⟨isL40, by rw [e]; exact vp_in_nI (by show a * 16 + k < 960; omega) (by decide)⟩
  rw [e, f00, KS_al (by decide), nI_32 (by omega)] at this
  have ev : gal σ 40 (a * 16 + k) = wordV P Q a k := by
    unfold wordV
    obtain ⟨_, h2, h3⟩ := hC.2 a ha
    by_cases c : k < 8
    · rw [if_pos c, h2 k c]
    · rw [if_neg c, ← h3 (k - 8) (by omega)]
      congr 1
      omega
  rw [ev] at this
  exact this
theorem x_wordx {x1 x2 : Int32} (hD : Db n sg P Q) (hC : CD σ n sg P Q) (h : ¬ ((∃ a, a < n ∧ x1 = nI a) ∧ ∃ k, k < 16 ∧ x2 = nI k)) : Cl (d + 7) 62 [.ref 0, .int x1, .int x2] σ (.inr 0) σ := by
  intro nv sd g hb
  have hn : gfi (KS σ nv sd g) 0 2 = nI n := by rw [KS_fi (by decide)]; exact hC.1
  refine ⟨nv, sd, g, 1, hb, by decide, ?_⟩
  by_cases ha : ∃ a, a < n ∧ x1 = nI a
  · obtain ⟨a, ha, rfl⟩ := ha
    refine b62_0 k0 (x_need hn hD.1 ha) (b62_5 (fun _ => b62_15) (fun z => b62_9 (fun w => ?_) (fun _ => b62_15)))
    obtain ⟨j, hj, rfl⟩ := nI_of z
    rw [show (16 : Int32) = nI 16 from rfl, nI_ltI hj (by decide)] at w
    exact absurd ⟨⟨a, ha, rfl⟩, j, w, rfl⟩ h
  · exact b62_0x k0 (by decide) (x_needx (d := d) hn hD.1 ha)
theorem x_sign {a : Nat} (hD : Db n sg P Q) (hC : CD σ n sg P Q) (ha : a < n) : Cl (d + 2) 63 [.ref 0, .int (nI a)] σ (.inl (some (.int (iZ (sg a))))) σ := by
  intro nv sd g hb
  have hn : gfi (KS σ nv sd g) 0 2 = nI n := by rw [KS_fi (by decide)]; exact hC.1
  have h60 := hD.1
  refine ⟨nv, sd, g, 0, hb, by decide, b63_0 k0 (x_need hn hD.1 ha) ?_⟩
  have := b63_5 (d := d + 1) (x0 := 0) (x1 := nI a) (σ := KS σ nv sd g) k0 (by decide) ⟨Or.inl rfl, vp_in_nI (by show a < 60; omega) (by decide)⟩
  rw [f01, KS_ai, nI_32 (by omega), (hC.2 a ha).1] at this
  exact this
theorem x_signx {x1 : Int32} (hD : Db n sg P Q) (hC : CD σ n sg P Q) (h : ¬ ∃ a, a < n ∧ x1 = nI a) : Cl (d + 7) 63 [.ref 0, .int x1] σ (.inr 0) σ := by
  intro nv sd g hb
  have hn : gfi (KS σ nv sd g) 0 2 = nI n := by rw [KS_fi (by decide)]; exact hC.1
  exact ⟨nv, sd, g, 1, hb, by decide, b63_0x k0 (by decide) (x_needx (d := d) hn hD.1 h)⟩
theorem x_bitsx {x1 x2 : Int32} (hD : Db n sg P Q) (hC : CD σ n sg P Q) (h : ¬ ∃ a, a < n ∧ x1 = nI a) : Cl (d + 7) 64 [.ref 0, .int x1, .int x2] σ (.inr 0) σ := by
  intro nv sd g hb
  have hn : gfi (KS σ nv sd g) 0 2 = nI n := by rw [KS_fi (by decide)]; exact hC.1
  exact ⟨nv, sd, g, 1, hb, by decide, b64_0x k0 (by decide) (x_needx (d := d) hn hD.1 h)⟩
theorem Bd_rd {a : Nat} {nv : Nat → Nat} (hD : Db n sg P Q) (ha : a < n) (hb : Bd nv) : Bd (up (up nv 8 (P a)) 9 (Q a)) := Bd_up (Bd_up hb (lt640 (hD.num ha).1)) (lt640 (hD.num ha).2.1)
theorem x_bits2 {a : Nat} {x2 : Int32} (hD : Db n sg P Q) (hC : CD σ n sg P Q) (ha : a < n) : Cl (d + 4) 64 [.ref 0, .int (nI a), .int x2] σ (.inl (some (.int (nI (if x2 = 0 then bln (Q a) else bln (P a)))))) σ := by
  intro nv sd g hb
  have hn : gfi (KS σ nv sd g) 0 2 = nI n := by rw [KS_fi (by decide)]; exact hC.1
  have b1 := Bd_rd hD ha hb
  refine ⟨_, upi sd 5 (iZ (sg a)), g, 0, b1, by decide, b64_0 k0 (x_need hn hD.1 ha) (b64_5 k0 (x_read (r := 5) hD hC ha ⟨by decide, by decide⟩ hb) (b64_14 (fun z => ?_) (fun z => ?_)))⟩
  · rw [if_pos z]
    have t := m_len (d := d + 1) (σ := σ) (sd := upi sd 5 (iZ (sg a))) (g := g) (i := 9) N9 b1
    rw [up_s] at t
    exact b64_31 k0 k5 N9.k t b64_41
  · rw [if_neg z]
    have t := m_len (d := d + 1) (σ := σ) (sd := upi sd 5 (iZ (sg a))) (g := g) (i := 8) N8 b1
    rw [up_n (by decide), up_s] at t
    exact b64_18 k0 k5 N8.k t (b64_28 b64_41)
theorem x_order {a b : Nat} (hD : Db n sg P Q) (hC : CD σ n sg P Q) (ha : a < n) (hb : b < n) : Cl (d + 4) 66 [.ref 0, .int (nI a), .int (nI b)] σ (.inl (some (.int (iZ (ordZ (sg a) (sg b) (P a * Q b) (P b * Q a)))))) σ := by
  intro nv sd g hbd
  have hn : gfi (KS σ nv sd g) 0 2 = nI n := by rw [KS_fi (by decide)]; exact hC.1
  have hr := x_rd (sd := sd) hD ha hb hbd
  obtain ⟨nv2, hE, hr2⟩ := x_compareRead (d := d) (σ := σ) (g := g) hr (hD.num ha) (hD.num hb)
  exact ⟨nv2, _, g, 0, hr2.1, by decide, b66_0 k0 (x_need hn hD.1 ha) (b66_5 k0 (x_need hn hD.1 hb) (b66_10 k0 (x_read (r := 5) hD hC ha ⟨by decide, by decide⟩ hbd) (b66_19 k0 (x_read (r := 6) hD hC hb ⟨by decide, by decide⟩ (Bd_rd hD ha hbd)) (b66_28 k0 hE b66_32))))⟩
theorem x_orderx {x1 x2 : Int32} (hD : Db n sg P Q) (hC : CD σ n sg P Q) (h : ¬ ((∃ a, a < n ∧ x1 = nI a) ∧ ∃ b, b < n ∧ x2 = nI b)) : Cl (d + 7) 66 [.ref 0, .int x1, .int x2] σ (.inr 0) σ := by
  intro nv sd g hb
  have hn : gfi (KS σ nv sd g) 0 2 = nI n := by rw [KS_fi (by decide)]; exact hC.1
  by_cases ha : ∃ a, a < n ∧ x1 = nI a
  · obtain ⟨a, ha, rfl⟩ := ha
    exact ⟨nv, sd, g, 1, hb, by decide, b66_0 k0 (x_need hn hD.1 ha) (b66_5x k0 (by decide) (x_needx (d := d) hn hD.1 (fun z => h ⟨⟨a, ha, rfl⟩, z⟩)))⟩
  · exact ⟨nv, sd, g, 1, hb, by decide, b66_0x k0 (by decide) (x_needx (d := d) hn hD.1 ha)⟩
theorem x_wrapx0 {x1 x2 x3 : Int32} (hD : Db n sg P Q) (hC : CD σ n sg P Q) (h : ¬ ∃ a, a < n ∧ x1 = nI a) : Cl (d + 7) 65 [.ref 0, .int x1, .int x2, .int x3] σ (.inr 0) σ := by
  intro nv sd g hb
  have hn : gfi (KS σ nv sd g) 0 2 = nI n := by rw [KS_fi (by decide)]; exact hC.1
  exact ⟨nv, sd, g, 1, hb, by decide, b65_0x k0 (by decide) (x_needx (d := d) hn hD.1 h)⟩
theorem x_wrapx1 {a : Nat} {x2 x3 : Int32} (hD : Db n sg P Q) (hC : CD σ n sg P Q) (ha : a < n) (h : ¬ ∃ b, 1 ≤ b ∧ b ≤ 64 ∧ x2 = nI b) : Cl (d + 7) 65 [.ref 0, .int (nI a), .int x2, .int x3] σ (.inr 1) σ := by
  intro nv sd g hb
  have hn : gfi (KS σ nv sd g) 0 2 = nI n := by rw [KS_fi (by decide)]; exact hC.1
  refine ⟨nv, sd, g, 1, hb, by decide, b65_0 k0 (x_need hn hD.1 ha) (b65_5 (fun _ => b65_16) (fun z => b65_10 (fun w => ?_) (fun _ => b65_16)))⟩
  have z0 : ¬ x2 < 0 := by
    intro c
    rw [i_lt] at c
    rw [i_lt] at z
    have t0 : (0 : Int32).toInt = 0 := rfl
    have t1 : (1 : Int32).toInt = 1 := rfl
    omega
  obtain ⟨j, hj, rfl⟩ := nI_of z0
  rw [show (1 : Int32) = nI 1 from rfl, nI_ltI hj (by decide)] at z
  rw [show (64 : Int32) = nI 64 from rfl, nI_leI hj (by decide)] at w
  exact absurd ⟨j, by omega, w, rfl⟩ h
def wrapW (s : Int) (p q : Nat) : Nat := un (if s < 0 then -lN (p / q % 2 ^ 64) else lN (p / q % 2 ^ 64))
theorem x_wrap {a b : Nat} {x3 : Int32} (hD : Db n sg P Q) (hC : CD σ n sg P Q) (ha : a < n) (hb1 : 1 ≤ b) (hb2 : b ≤ 64) : Cl (d + 5) 65 [.ref 0, .int (nI a), .int (nI b), .int x3] σ (.inl (some (.long (wrapV (wrapW (sg a) (P a) (Q a)) b (decide (x3 ≠ 0)))))) σ := by
  intro nv sd g hb
  have hn : gfi (KS σ nv sd g) 0 2 = nI n := by rw [KS_fi (by decide)]; exact hC.1
  have hs := (hD.num ha).s
  have b1 := Bd_rd hD ha hb
  have v8 : up (up nv 8 (P a)) 9 (Q a) 8 = P a := by rw [up_n (by decide), up_s]
  have v9 : up (up nv 8 (P a)) 9 (Q a) 9 = Q a := up_s _ _ _
  have lt8 : P a < 2 ^ 600 := Nat.lt_of_lt_of_le (hD.num ha).1 (show 2 ^ (32 * 8) ≤ 2 ^ 600 from Nat.pow_le_pow_right (by decide) (by decide))
  obtain ⟨z, hz, hE⟩ := m_div (d := d + 1) (D := 3) (σ := σ) (nv := up (up nv 8 (P a)) 9 (Q a)) (sd := upi sd 5 (iZ (sg a))) (g := g) (i := 8) (k := 9) D3 N8 N9 (by decide) (by decide) (by decide) (by decide) (by decide) b1 (by rw [v8]; exact lt8)
  rw [f30, f31, f32, v8, v9] at hE
  have b2 : Bd (up (up (up (up (up nv 8 (P a)) 9 (Q a)) 16 (P a / Q a)) 17 (P a % Q a)) 18 z) := Bd_up (Bd_up (Bd_up b1 (Nat.lt_of_le_of_lt (Nat.div_le_self _ _) (l640 lt8))) (Nat.lt_of_le_of_lt (Nat.mod_le _ _) (l640 lt8))) hz
  have t := m_lowest (d := d + 3) (σ := σ) (sd := upi sd 5 (iZ (sg a))) (g := g) (i := 16) N16 b2
  rw [up_n (by decide), up_n (by decide), up_s] at t
  refine ⟨_, upi sd 5 (iZ (sg a)), g, 0, b2, by decide, ?_⟩
  refine b65_0 k0 (x_need hn hD.1 ha) (b65_5 (fun w => ?_) (fun _ => b65_10 (fun _ => ?_) (fun w => ?_)))
  · rw [show (1 : Int32) = nI 1 from rfl, nI_ltI (by omega) (by decide)] at w
    omega
  · refine b65_26 k0 (x_read (r := 5) hD hC ha ⟨by decide, by decide⟩ hb) (b65_35 k0 k5 k3 hE (b65_56 k0 k3 N16.k t ?_))
    have ea : (64 : Int32) - nI b = nI (64 - b) := pk_sub (a := 64) hb2
    have g5 : gfi (KS σ (up (up (up (up (up nv 8 (P a)) 9 (Q a)) 16 (P a / Q a)) 17 (P a % Q a)) 18 z) (upi sd 5 (iZ (sg a))) g) (fr 0 3) 2 = iZ (sg a) := by rw [f03, KS_sd (by decide), upi_s]
    have fin : ∀ v : Int64, v = (if sg a < 0 then -lN (P a / Q a % 2 ^ 64) else lN (P a / Q a % 2 ^ 64)) → Er (d + 5) 65 (92, [some (.ref 0), some (.int (nI a)), some (.int (nI b)), some (.int x3), some (.long (lN (P a / Q a % 2 ^ 64))), none, some (.int (nI (64 - b))), none, none], [.long v], KS σ (up (up (up (up (up nv 8 (P a)) 9 (Q a)) 16 (P a / Q a)) 17 (P a % Q a)) 18 z) (upi sd 5 (iZ (sg a))) g) (.inl (some (.long (wrapV (wrapW (sg a) (P a) (Q a)) b (decide (x3 ≠ 0))))), KS σ (up (up (up (up (up nv 8 (P a)) 9 (Q a)) 16 (P a / Q a)) 17 (P a % Q a)) 18 z) (upi sd 5 (iZ (sg a))) g, 0) := by
      intro v hv
      have ew : wrapW (sg a) (P a) (Q a) = un v := by unfold wrapW; rw [hv]
      rw [ew]
      refine b65_92 (fun c => ?_) (fun c => ?_)
      · have := wrap_u v (a := 64 - b) (by omega)
        rw [show 64 - (64 - b) = b by omega] at this
        rw [show decide (x3 ≠ 0) = false by simp [c], ← this]
        exact b65_109 b65_114
      · have := wrap_s v (a := 64 - b) (by omega)
        rw [show 64 - (64 - b) = b by omega] at this
        rw [show decide (x3 ≠ 0) = true by simp [c], ← this]
        exact b65_101 b65_114
    refine b65_66 k0 k5 (fun c => ?_) (fun c => ?_)
    · rw [g5, iz_ge0 (by omega) (by omega)] at c
      rw [ea]
      exact b65_90 (fin _ (by rw [if_neg (by omega)]))
    · rw [g5, iz_ge0 (by omega) (by omega)] at c
      rw [ea]
      exact b65_84 (fin _ (by rw [if_pos (by omega)]))
  · exact absurd (nI_le (b := 64) hb2 (by decide)) w
end
