/-! the reference: whole, small, level, order, sum, power -/
theorem mod1 {Q j : Nat} (hj : 1 ≤ j) : Q % Bp (j + 1) = 1 ↔ Q % Bp j = 1 ∧ dg Q j = 0 := by
  rw [dg_split]
  have h1 := Bp_le hj
  rw [Bp_1] at h1
  by_cases c : dg Q j = 0
  · rw [c, Nat.zero_mul, Nat.add_zero]
    exact ⟨fun z => ⟨z, rfl⟩, fun z => z.1⟩
  · have h2 : Bp j ≤ dg Q j * Bp j := Nat.le_mul_of_pos_left _ (by omega)
    constructor
    · intro z; omega
    · intro z; exact absurd z.2 c
theorem modm {P j m : Nat} (hj : 1 ≤ j) (hm : m < Bp 1) : P % Bp (j + 1) ≤ m ↔ P % Bp j ≤ m ∧ dg P j = 0 := by
  rw [dg_split]
  have h1 := Bp_le hj
  by_cases c : dg P j = 0
  · rw [c, Nat.zero_mul, Nat.add_zero]
    exact ⟨fun z => ⟨z, rfl⟩, fun z => z.1⟩
  · have h2 : Bp j ≤ dg P j * Bp j := Nat.le_mul_of_pos_left _ (by omega)
    constructor
    · intro z; omega
    · intro z; exact absurd z.2 c
theorem ma_bad {n : Nat} {T : Int × Nat × Nat} {c : Int32} {σ : St} (h : ¬ (n < 60 ∧ bln T.2.1 ≤ 256 ∧ bln T.2.2 ≤ 256)) : maV n T = 0 ∧ maC n T c = c ∧ maS σ n T = σ := ⟨if_neg h, if_neg h, if_neg h⟩
section
variable {d n a b : Nat} {σ : St} {rv : Nat → Nat} {f : Nat → Int32} {sg : Nat → Int} {P Q : Nat → Nat} {S : St}
theorem z_isWhole (hD : Db n sg P Q) (hM : MD σ n sg P Q) (ha : a < n) : Er (d + 1) 103 (0, ent 103 [.ref 1, .int (nI a)], [], ZS σ rv f) (.inl (some (.int (if Q a = 1 then 1 else 0))), ZS σ rv f, 0) := by
  have h60 := hD.1
  obtain ⟨_, hQ, _⟩ := hD.2 a ha
  obtain ⟨_, _, h3⟩ := hM.2 a ha
  have rdq : ∀ j, j < 8 → gal (ZS σ rv f) (fr 1 3) ((16 : Int32) * nI a + nI (8 + j)).toNatClampNeg = lN (dg (Q a) j) := by
    intro j hj
    rw [show (16 : Int32) = nI 16 from rfl, pk_mul, nI_add, nI_32 (by omega), f13, ZS_al (by decide), ← h3 j hj, Nat.add_assoc]
  have inq : ∀ j, j < 8 → isL (fr 1 3) ∧ vp_in ((16 : Int32) * nI a + nI (8 + j)) (ale (fr 1 3)) := fun j hj => ⟨isL43, by rw [show (16 : Int32) = nI 16 from rfl, pk_mul, nI_add]; exact vp_in_nI (by show 16 * a + (8 + j) < 960; omega) (by decide)⟩
  have loop : ∀ m j, 1 ≤ j → j + m = 8 → Er (d + 1) 103 (26, [some (.ref 1), some (.int (nI a)), some (.int (if Q a % Bp j = 1 then 1 else 0)), some (.int (nI (8 + j)))], [], ZS σ rv f) (.inl (some (.int (if Q a = 1 then 1 else 0))), ZS σ rv f, 0) := by
    intro m
    induction m with
    | zero =>
      intro j _ hj
      rw [Nat.add_zero] at hj
      subst hj
      rw [Bp_mod hQ]
      refine b103_26 (fun _ => b103_64 ?_) (fun z => absurd (Int32.le_refl _) z)
      split <;> rfl
    | succ m ih =>
      intro j h1 hj
      refine b103_26 (fun z => absurd z (nI_ge (b := 16) (by omega) (by decide))) (fun _ => ?_)
      have nx := ih (j + 1) (by omega) (by omega)
      have e1 : nI (8 + j) + 1 = nI (8 + (j + 1)) := nI_1 _
      by_cases c : Q a % Bp j = 1
      · rw [if_pos c]
        by_cases c2 : dg (Q a) j = 0
        · rw [if_pos ((mod1 h1).mpr ⟨c, c2⟩)] at nx
          refine b103_32 (fun z => absurd z (by decide)) (fun _ => b103_36 k1 (inq j (by omega)) (fun z => absurd (by rw [rdq j (by omega), c2]; rfl) z) (fun _ => b103_52 (b103_57 ?_)))
          rw [e1]
          exact nx
        · rw [if_neg (fun z => c2 ((mod1 h1).mp z).2)] at nx
          refine b103_32 (fun z => absurd z (by decide)) (fun _ => b103_36 k1 (inq j (by omega)) (fun _ => b103_56 (b103_57 ?_)) (fun z => ?_))
          · rw [e1]
            exact nx
          · rw [rdq j (by omega), lN_ne0 (dg_lt _ _)] at z
            exact absurd z c2
      · rw [if_neg (fun z => c ((mod1 h1).mp z).1)] at nx
        rw [if_neg c]
        exact b103_32 (fun _ => b103_56 (b103_57 (by rw [e1]; exact nx))) (fun z => absurd rfl z)
  have l1 := loop 7 1 (by decide) (by decide)
  have e0 : Q a % Bp 1 = dg (Q a) 0 := by rw [dg_zero, Bp_1]
  have r0 := rdq 0 (by decide)
  have i0 := inq 0 (by decide)
  by_cases c : dg (Q a) 0 = 1
  · rw [e0, if_pos c] at l1
    exact b103_0 k1 i0 (fun z => absurd (r0.trans (by rw [c]; rfl)) z) (fun _ => b103_17 (b103_22 l1))
  · rw [e0, if_neg c] at l1
    have hl := dg_lt (Q a) 0
    exact b103_0 k1 i0 (fun _ => b103_21 (b103_22 l1)) (fun z => absurd ((lN_inj (b := 1) (Nat.lt_trans hl (by decide)) (by decide)).mp (r0.symm.trans z)) c)
theorem z_isSmall {m : Nat} (hD : Db n sg P Q) (hM : MD σ n sg P Q) (ha : a < n) (hm : m < 2 ^ 31) : Er (d + 2) 104 (0, ent 104 [.ref 1, .int (nI a), .int (nI m)], [], ZS σ rv f) (.inl (some (.int (if Q a = 1 ∧ P a ≤ m then 1 else 0))), ZS σ rv (upi f 5 (if Q a = 1 ∧ P a ≤ m then iZ (sg a * P a) else 0)), 0) := by
  have h60 := hD.1
  obtain ⟨hP, _, _⟩ := hD.2 a ha
  obtain ⟨h1, h2, _⟩ := hM.2 a ha
  have hm1 : m < Bp 1 := by rw [Bp_1]; omega
  have rdp : ∀ j, j < 8 → gal (ZS σ rv f) (fr 1 3) ((16 : Int32) * nI a + nI j).toNatClampNeg = lN (dg (P a) j) := by
    intro j hj
    rw [show (16 : Int32) = nI 16 from rfl, pk_mul, nI_add, nI_32 (by omega), f13, ZS_al (by decide), ← h2 j hj]
  have inp : ∀ j, j < 8 → isL (fr 1 3) ∧ vp_in ((16 : Int32) * nI a + nI j) (ale (fr 1 3)) := fun j hj => ⟨isL43, by rw [show (16 : Int32) = nI 16 from rfl, pk_mul, nI_add]; exact vp_in_nI (by show 16 * a + j < 960; omega) (by decide)⟩
  have z0 : (16 : Int32) * nI a + nI 0 = 16 * nI a := by rw [show (16 : Int32) = nI 16 from rfl, pk_mul, nI_add]; rfl
  have r0 := rdp 0 (by decide)
  have i0 := inp 0 (by decide)
  rw [z0] at r0 i0
  have fin : Er (d + 2) 104 (72, [some (.ref 1), some (.int (nI a)), some (.int (nI m)), some (.int (if Q a = 1 ∧ P a ≤ m then 1 else 0)), some (.int (nI 8))], [], ZS σ rv f) (.inl (some (.int (if Q a = 1 ∧ P a ≤ m then 1 else 0))), ZS σ rv (upi f 5 (if Q a = 1 ∧ P a ≤ m then iZ (sg a * P a) else 0)), 0) := by
    by_cases c : Q a = 1 ∧ P a ≤ m
    · rw [if_pos c, if_pos c]
      refine b104_72 (fun z => absurd z (by decide)) (fun _ => b104_77 k1 (by decide) (in42 h60 ha) i0 ?_)
      have e : iZ (sg a) * (lN (dg (P a) 0)).toInt32 = iZ (sg a * P a) := by
        rw [dg_zero, Nat.mod_eq_of_lt (by omega), ← lZ_N, lZ_i, iZ_mul]
      rw [z_sg hD hM ha, r0, e]
      have t := b104_98 (d := d + 1) (x0 := 1) (x1 := nI a) (x2 := nI m) (x3 := 1) (x4 := nI 8) (s0 := 1) (s1 := iZ (sg a * P a)) (σ := ZS σ rv f) ⟨by decide, rfl, rfl⟩ rfl
      rw [ZS_set (by decide)] at t
      exact t
    · rw [if_neg c, if_neg c]
      have t := b104_98 (d := d + 1) (x0 := 1) (x1 := nI a) (x2 := nI m) (x3 := 0) (x4 := nI 8) (s0 := 1) (s1 := 0) (σ := ZS σ rv f) ⟨by decide, rfl, rfl⟩ rfl
      rw [ZS_set (by decide)] at t
      exact b104_72 (fun _ => b104_97 t) (fun z => absurd rfl z)
  have loop : ∀ k j, 1 ≤ j → j + k = 8 → Er (d + 2) 104 (32, [some (.ref 1), some (.int (nI a)), some (.int (nI m)), some (.int (if Q a = 1 ∧ P a % Bp j ≤ m then 1 else 0)), some (.int (nI j))], [], ZS σ rv f) (.inl (some (.int (if Q a = 1 ∧ P a ≤ m then 1 else 0))), ZS σ rv (upi f 5 (if Q a = 1 ∧ P a ≤ m then iZ (sg a * P a) else 0)), 0) := by
    intro k
    induction k with
    | zero =>
      intro j _ hj
      rw [Nat.add_zero] at hj
      subst hj
      rw [Bp_mod hP]
      exact b104_32 (fun _ => fin) (fun z => absurd (Int32.le_refl _) z)
    | succ k ih =>
      intro j hj1 hj
      refine b104_32 (fun z => absurd z (nI_ge (b := 8) (by omega) (by decide))) (fun _ => ?_)
      have nx := ih (j + 1) (by omega) (by omega)
      have e1 : nI j + 1 = nI (j + 1) := nI_1 _
      by_cases c : Q a = 1 ∧ P a % Bp j ≤ m
      · rw [if_pos c]
        by_cases c2 : dg (P a) j = 0
        · rw [if_pos ⟨c.1, (modm hj1 hm1).mpr ⟨c.2, c2⟩⟩] at nx
          refine b104_39 (fun z => absurd z (by decide)) (fun _ => b104_43 k1 (inp j (by omega)) (fun z => absurd (by rw [rdp j (by omega), c2]; rfl) z) (fun _ => b104_60 (b104_65 ?_)))
          rw [e1]
          exact nx
        · rw [if_neg (fun z => c2 ((modm hj1 hm1).mp z.2).2)] at nx
          refine b104_39 (fun z => absurd z (by decide)) (fun _ => b104_43 k1 (inp j (by omega)) (fun _ => b104_64 (b104_65 ?_)) (fun z => ?_))
          · rw [e1]
            exact nx
          · rw [rdp j (by omega), lN_ne0 (dg_lt _ _)] at z
            exact absurd z c2
      · rw [if_neg (fun z => c ⟨z.1, ((modm hj1 hm1).mp z.2).1⟩)] at nx
        rw [if_neg c]
        exact b104_39 (fun _ => b104_64 (b104_65 (by rw [e1]; exact nx))) (fun z => absurd rfl z)
  have l1 := loop 7 1 (by decide) (by decide)
  have e0 : P a % Bp 1 = dg (P a) 0 := by rw [dg_zero, Bp_1]
  have hl := dg_lt (P a) 0
  have cmp : (nI m).toInt64 < lN (dg (P a) 0) ↔ m < dg (P a) 0 := by
    rw [nI_l hm, l_lt, toInt_N (by omega), toInt_N (by omega)]
    omega
  refine b104_0 k1 (z_isWhole hD hM ha) ?_
  by_cases c : Q a = 1
  · rw [if_pos c]
    refine b104_5 (fun z => absurd z (by decide)) (fun _ => b104_8 k1 i0 (fun z => ?_) (fun z => ?_))
    · rw [r0, cmp] at z
      rw [e0, if_neg (fun y => absurd y.2 (by omega))] at l1
      exact b104_27 (b104_28 l1)
    · rw [r0, cmp] at z
      rw [e0, if_pos ⟨c, by omega⟩] at l1
      exact b104_23 (b104_28 l1)
  · rw [if_neg c]
    rw [if_neg (fun y => c y.1)] at l1
    exact b104_5 (fun _ => b104_27 (b104_28 l1)) (fun z => absurd rfl z)
theorem b16_64 {x : Nat} (h : x < Bp 16) : x < Bp 64 := Nat.lt_of_lt_of_le h (Bp_le (by decide))
theorem b16_63 {x : Nat} (h : x < Bp 16) : x < Bp 63 := Nat.lt_of_lt_of_le h (Bp_le (by decide))
theorem b8_63 {x : Nat} (h : x < Bp 8) : x < Bp 63 := Nat.lt_of_lt_of_le h (Bp_le (by decide))
/-- both over one bottom -/
theorem z_level (hD : Db n sg P Q) (hM : MD σ n sg P Q) (ha : a < n) (hb : b < n) (hB : BM rv) : ∃ rv2, BM rv2 ∧ rv2 4 = P a * Q b ∧ rv2 5 = P b * Q a ∧ rv2 6 = Q a * Q b ∧ Er (d + 3) 110 (0, ent 110 [.ref 1, .int (nI a), .int (nI b)], [], ZS σ rv f) (.inl none, ZS σ rv2 f, 0) := by
  obtain ⟨pa, qa, _⟩ := hD.2 a ha
  obtain ⟨pb, qb, _⟩ := hD.2 b hb
  have m4 := b16_64 (mul16 pa qb)
  have m5 := b16_64 (mul16 pb qa)
  have m6 := b16_64 (mul16 qa qb)
  have B1 := BM_up (i := 2) hB (Bp8_64 pa)
  have B2 := BM_up (i := 3) B1 (Bp8_64 qb)
  have t3 := z_times (d := d) (σ := σ) (rv := up (up rv 2 (P a)) 3 (Q b)) (f := f) (a := 2) (b := 3) (c := 4) (by decide) (by decide) (by decide) (by decide) (by decide) B2 (by rw [up_s, up_n (by decide), up_s]; exact m4)
  rw [up_s, up_n (i := 3) (j := 2) (by decide), up_s] at t3
  have B3 := BM_up (i := 4) B2 m4
  have B4 := BM_up (i := 2) B3 (Bp8_64 pb)
  have B5 := BM_up (i := 3) B4 (Bp8_64 qa)
  obtain ⟨r5, h5⟩ : ∃ r5, r5 = up (up (up (up (up rv 2 (P a)) 3 (Q b)) 4 (P a * Q b)) 2 (P b)) 3 (Q a) := ⟨_, rfl⟩
  have e5 : r5 2 = P b ∧ r5 3 = Q a ∧ r5 4 = P a * Q b := by
    rw [h5]
    exact ⟨by rw [up_n (by decide), up_s], by rw [up_s], by rw [up_n (by decide), up_n (by decide), up_s]⟩
  have t6 := z_times (d := d) (σ := σ) (rv := r5) (f := f) (a := 2) (b := 3) (c := 5) (by decide) (by decide) (by decide) (by decide) (by decide) (by rw [h5]; exact B5) (by rw [e5.1, e5.2.1]; exact m5)
  rw [e5.1, e5.2.1] at t6
  have B6 : BM (up r5 5 (P b * Q a)) := BM_up (by rw [h5]; exact B5) m5
  have B7 := BM_up (i := 2) B6 (Bp8_64 qa)
  have B8 := BM_up (i := 3) B7 (Bp8_64 qb)
  obtain ⟨r8, h8⟩ : ∃ r8, r8 = up (up (up r5 5 (P b * Q a)) 2 (Q a)) 3 (Q b) := ⟨_, rfl⟩
  have e8 : r8 2 = Q a ∧ r8 3 = Q b ∧ r8 4 = P a * Q b ∧ r8 5 = P b * Q a := by
    rw [h8]
    exact ⟨by rw [up_n (by decide), up_s], by rw [up_s], by rw [up_n (by decide), up_n (by decide), up_n (by decide), e5.2.2], by rw [up_n (by decide), up_n (by decide), up_s]⟩
  have t9 := z_times (d := d) (σ := σ) (rv := r8) (f := f) (a := 2) (b := 3) (c := 6) (by decide) (by decide) (by decide) (by decide) (by decide) (by rw [h8]; exact B8) (by rw [e8.1, e8.2.1]; exact m6)
  rw [e8.1, e8.2.1] at t9
  refine ⟨up r8 6 (Q a * Q b), BM_up (by rw [h8]; exact B8) m6, by rw [up_n (by decide), e8.2.2.1], by rw [up_n (by decide), e8.2.2.2], up_s _ _ _, ?_⟩
  rw [h8, h5] at t9
  rw [h5] at t6
  rw [h8, h5]
  rw [h5] at B6 B7
  exact b110_0 k1 (z_loadP (r := 2) hD hM ha (by decide) hB) (b110_6 k1 (z_loadQ (r := 3) hD hM hb (by decide) B1) (b110_12 k1 t3 (b110_19 k1 (z_loadP (r := 2) hD hM hb (by decide) B3) (b110_25 k1 (z_loadQ (r := 3) hD hM ha (by decide) B4) (b110_31 k1 t6 (b110_38 k1 (z_loadQ (r := 2) hD hM ha (by decide) B6) (b110_44 k1 (z_loadQ (r := 3) hD hM hb (by decide) B7) (b110_50 k1 t9 b110_58))))))))
theorem sgq (hD : Db n sg P Q) (ha : a < n) (hb : b < n) : iZ (sg a) = iZ (sg b) ↔ sg a = sg b := by
  have h1 := (hD.num ha).s
  have h2 := (hD.num hb).s
  exact iz_eq (by omega) (by omega) (by omega) (by omega)
theorem sgl (hD : Db n sg P Q) (ha : a < n) (hb : b < n) : iZ (sg a) ≤ iZ (sg b) ↔ sg a ≤ sg b := by
  have h1 := (hD.num ha).s
  have h2 := (hD.num hb).s
  exact iZ_le (by omega) (by omega) (by omega) (by omega)
theorem z_ord (hD : Db n sg P Q) (hM : MD σ n sg P Q) (ha : a < n) (hb : b < n) (hB : BM rv) : ∃ rv2, BM rv2 ∧ Er (d + 4) 109 (0, ent 109 [.ref 1, .int (nI a), .int (nI b)], [], ZS σ rv f) (.inl (some (.int (iZ (ordZ (sg a) (sg b) (P a * Q b) (P b * Q a))))), ZS σ rv2 (upi f 0 0), 0) := by
  have h60 := hD.1
  have es : sfi (ZS σ rv f) 1 0 0 = ZS σ rv (upi f 0 0) := ZS_set (by decide)
  have hn : gfi (ZS σ rv f) 1 1 = nI n := zn (hM := hM)
  have start : ∀ {q : Rs}, Er (d + 4) 109 (22, [some (.ref 1), some (.int (nI a)), some (.int (nI b))], [], ZS σ rv f) q → Er (d + 4) 109 (0, ent 109 [.ref 1, .int (nI a), .int (nI b)], [], ZS σ rv f) q := fun h =>
    b109_0 k1 (z_num hn h60 ha) (b109_5 (fun z => absurd z (by decide)) (fun _ => b109_8 k1 (z_num hn h60 hb) (b109_13 (fun _ => h) (fun z => absurd z (by decide)))))
  unfold ordZ
  by_cases c : sg a = sg b
  · rw [if_pos c]
    obtain ⟨rv2, B2, e4, e5, _, hl⟩ := z_level (d := d) (f := upi f 0 0) hD hM ha hb hB
    have t := z_cmpM (d := d + 2) (σ := σ) (rv := rv2) (f := upi f 0 0) (a := 4) (b := 5) (by decide) (by decide) B2
    rw [e4, e5] at t
    refine ⟨rv2, B2, start (b109_22 ⟨by decide, rfl, rfl⟩ k1 (by decide) (in42 h60 ha) (in42 h60 hb) (fun _ => ?_) (fun z => ?_))⟩
    · rw [es]
      refine b109_63 k1 hl (b109_69 k1 (by decide) (in42 h60 ha) t ?_)
      rw [z_sg hD hM ha, ← iZ_mul]
      exact b109_81
    · rw [es, z_sg hD hM ha, z_sg hD hM hb] at z
      exact absurd (by rw [c]) z
  · rw [if_neg c]
    refine ⟨rv, hB, start (b109_22 ⟨by decide, rfl, rfl⟩ k1 (by decide) (in42 h60 ha) (in42 h60 hb) (fun z => ?_) (fun _ => ?_))⟩
    · rw [es, z_sg hD hM ha, z_sg hD hM hb, sgq hD ha hb] at z
      exact absurd z c
    · rw [es]
      unfold cz
      rw [if_neg c]
      refine b109_42 k1 (by decide) (in42 h60 ha) (in42 h60 hb) (fun z => ?_) (fun z => ?_)
      · rw [z_sg hD hM ha, z_sg hD hM hb, sgl hD hb ha] at z
        rw [if_neg (by omega)]
        exact b109_61 b109_62
      · rw [z_sg hD hM ha, z_sg hD hM hb, sgl hD hb ha] at z
        rw [if_pos (by omega)]
        exact b109_57 b109_62
theorem z_order (hD : Db n sg P Q) (hM : MD σ n sg P Q) (ha : a < n) (hb : b < n) : Ml (d + 4) 109 [.ref 1, .int (nI a), .int (nI b)] σ (.int (iZ (ordZ (sg a) (sg b) (P a * Q b) (P b * Q a)))) σ 0 := by
  intro rv f hB
  obtain ⟨rv2, B2, h⟩ := z_ord (d := d) (f := f) hD hM ha hb hB
  exact ⟨rv2, upi f 0 0, B2, upi_s _ _ _, h⟩
theorem z_orderx {x1 x2 : Int32} (hD : Db n sg P Q) (hM : MD σ n sg P Q) (h : ¬ ((∃ a, a < n ∧ x1 = nI a) ∧ ∃ b, b < n ∧ x2 = nI b)) : Ml (d + 2) 109 [.ref 1, .int x1, .int x2] σ (.int 0) σ 1 := by
  intro rv f hB
  have hn : gfi (ZS σ rv f) 1 1 = nI n := zn (hM := hM)
  have bad : Er (d + 2) 109 (16, [some (.ref 1), some (.int x1), some (.int x2)], [], ZS σ rv f) (.inl (some (.int 0)), ZS σ rv (upi f 0 1), 0) := b109_16 k1 z_fails b109_21
  refine ⟨rv, upi f 0 1, hB, upi_s _ _ _, ?_⟩
  by_cases ha : ∃ a, a < n ∧ x1 = nI a
  · obtain ⟨a, ha, rfl⟩ := ha
    have hb : ¬ ∃ b, b < n ∧ x2 = nI b := fun z => h ⟨⟨a, ha, rfl⟩, z⟩
    exact b109_0 k1 (z_num hn hD.1 ha) (b109_5 (fun z => absurd z (by decide)) (fun _ => b109_8 k1 (z_numx hn hD.1 hb) (b109_13 (fun z => absurd rfl z) (fun _ => bad))))
  · exact b109_0 k1 (z_numx hn hD.1 ha) (b109_5 (fun _ => bad) (fun z => absurd rfl z))
theorem z_sum {x y : Int} {L R q : Nat} (hn : gfi σ 1 1 = nI n) (h60 : n ≤ 60) (hx : x = 0 ∨ x = 1 ∨ x = -1) (hy : y = 0 ∨ y = 1 ∨ y = -1) (hB : BM rv) (e4 : rv 4 = L) (e5 : rv 5 = R) (e1 : rv 1 = q) (hL : L < Bp 16) (hR : R < Bp 16) (hq0 : 0 < q) (hq : q < Bp 63) :
    ∃ rv2 f2, BM rv2 ∧ f2 0 = maC n (mk3 (sumM x y L R q)) 4 ∧ Er (d + 4) 112 (0, ent 112 [.ref 1, .int (iZ x), .int (iZ y)], [], ZS σ rv f) (.inl (some (.int (maV n (mk3 (sumM x y L R q))))), ZS (maS σ n (mk3 (sumM x y L R q))) rv2 f2, 0) := by
  have zx : iZ x = 0 ↔ x = 0 := by
    rw [iZ0]
    exact iz_eq (by omega) (by omega) (by omega) (by omega)
  have zy : iZ y = 0 ↔ y = 0 := by
    rw [iZ0]
    exact iz_eq (by omega) (by omega) (by omega) (by omega)
  have zxy : iZ x = iZ y ↔ x = y := iz_eq (by omega) (by omega) (by omega) (by omega)
  have L64 := b16_64 hL
  have R64 := b16_64 hR
  by_cases c : x = 0 ∨ y = 0 ∨ x = y
  · have eS : sumM x y L R q = (if x = 0 then y else x, L + R, q) := if_pos c
    rw [eS]
    have s63 : L + R < Bp 63 := by
      have h1 := Bp_le (a := 17) (b := 63) (by decide)
      have h2 : Bp 17 = Bp 16 * 4294967296 := Bp_succ 16
      omega
    have t1 := z_copy (d := d + 2) (σ := σ) (rv := rv) (f := f) (a := 4) (b := 0) (by decide) (by decide) (by decide) hB
    rw [e4] at t1
    have B1 := BM_up (i := 0) hB L64
    have t2 := z_addM (d := d + 2) (σ := σ) (rv := up rv 0 L) (f := f) (a := 0) (b := 5) (by decide) (by decide) (by decide) B1 (by rw [up_s, up_n (by decide), e5]; exact B64 s63)
    rw [up_s, up_n (i := 0) (j := 5) (by decide), e5, up_up] at t2
    have B2 := BM_up (i := 0) hB (B64 s63)
    have r1 : up rv 0 (L + R) 1 = q := by rw [up_n (by decide), e1]
    obtain ⟨rv2, f2, b2, g2, hr⟩ := z_mk (d := d) (f := f) (σ := σ) (rv := up rv 0 (L + R)) (s := if x = 0 then y else x) (c := 4) (T := mk3 (if x = 0 then y else x, L + R, q)) hn h60 B2 (by rw [r1]; exact hq0) (by rw [up_s]; exact s63) (by rw [r1]; exact hq) (by rw [r1, up_s])
    refine ⟨rv2, f2, b2, g2, ?_⟩
    have go : Er (d + 4) 112 (13, [some (.ref 1), some (.int (iZ x)), some (.int (iZ y)), none], [], ZS σ rv f) (.inl (some (.int (maV n (mk3 (if x = 0 then y else x, L + R, q))))), ZS (maS σ n (mk3 (if x = 0 then y else x, L + R, q))) rv2 f2, 0) := by
      refine b112_13 k1 t1 (b112_19 k1 t2 ?_)
      by_cases c1 : x = 0
      · rw [if_pos c1] at hr ⊢
        exact b112_25 (fun z => absurd (zx.mpr c1) z) (fun _ => b112_30 (b112_35 k1 hr b112_39))
      · rw [if_neg c1] at hr ⊢
        exact b112_25 (fun _ => b112_34 (b112_35 k1 hr b112_39)) (fun z => absurd (zx.mp z) c1)
    refine b112_0 (fun _ => go) (fun h1 => b112_4 (fun _ => go) (fun h2 => b112_8 (fun h3 => ?_) (fun _ => go)))
    rw [zx] at h1
    rw [zy] at h2
    rw [zxy] at h3
    omega
  · have c0 : ¬ x = 0 := fun z => c (Or.inl z)
    have c1 : ¬ y = 0 := fun z => c (Or.inr (Or.inl z))
    have c2 : ¬ x = y := fun z => c (Or.inr (Or.inr z))
    have tc := z_cmpM (d := d + 2) (σ := σ) (rv := rv) (f := f) (a := 4) (b := 5) (by decide) (by decide) hB
    rw [e4, e5] at tc
    have start : ∀ {k : Rs}, Er (d + 4) 112 (46, [some (.ref 1), some (.int (iZ x)), some (.int (iZ y)), none], [.int (iZ (cz (L : Int) (R : Int)))], ZS σ rv f) k → Er (d + 4) 112 (0, ent 112 [.ref 1, .int (iZ x), .int (iZ y)], [], ZS σ rv f) k := fun h =>
      b112_0 (fun z => absurd (zx.mp z) c0) (fun _ => b112_4 (fun z => absurd (zy.mp z) c1) (fun _ => b112_8 (fun _ => b112_40 k1 tc h) (fun z => absurd (zxy.mp z) c2)))
    have hcz : iZ (cz (L : Int) (R : Int)) < 0 ↔ L < R := by
      unfold cz
      by_cases g : (L : Int) = R
      · rw [if_pos g]
        exact ⟨fun z => absurd z (by decide), fun z => by omega⟩
      · rw [if_neg g]
        by_cases g2 : (L : Int) < R
        · rw [if_pos g2]
          exact ⟨fun _ => by omega, fun _ => by decide⟩
        · rw [if_neg g2]
          exact ⟨fun z => absurd z (by decide), fun z => by omega⟩
    by_cases g : R ≤ L
    · have eS : sumM x y L R q = (x, L - R, q) := by
        unfold sumM
        rw [if_neg c, if_pos g]
      rw [eS]
      have s63 : L - R < Bp 63 := Nat.lt_of_le_of_lt (Nat.sub_le _ _) (b16_63 hL)
      have t1 := z_copy (d := d + 2) (σ := σ) (rv := rv) (f := f) (a := 4) (b := 0) (by decide) (by decide) (by decide) hB
      rw [e4] at t1
      have B1 := BM_up (i := 0) hB L64
      have t2 := z_takeM (d := d + 2) (σ := σ) (rv := up rv 0 L) (f := f) (a := 0) (b := 5) (by decide) (by decide) (by decide) B1 (by rw [up_s, up_n (by decide), e5]; exact g)
      rw [up_s, up_n (i := 0) (j := 5) (by decide), e5, up_up] at t2
      have B2 := BM_up (i := 0) hB (B64 s63)
      have r1 : up rv 0 (L - R) 1 = q := by rw [up_n (by decide), e1]
      obtain ⟨rv2, f2, b2, g2, hr⟩ := z_mk (d := d) (f := f) (σ := σ) (rv := up rv 0 (L - R)) (s := x) (c := 4) (T := mk3 (x, L - R, q)) hn h60 B2 (by rw [r1]; exact hq0) (by rw [up_s]; exact s63) (by rw [r1]; exact hq) (by rw [r1, up_s])
      refine ⟨rv2, f2, b2, g2, start (b112_46 (fun z => absurd (hcz.mp z) (by omega)) (fun _ => b112_49 (b112_54 (fun z => absurd z (by decide)) (fun _ => b112_60 (b112_65 k1 t1 ?_)))))⟩
      exact b112_69 (fun z => absurd z (by decide)) (fun _ => b112_75 (b112_80 k1 t2 (b112_83 (fun z => absurd z (by decide)) (fun _ => b112_88 (b112_93 k1 hr b112_97)))))
    · have eS : sumM x y L R q = (y, R - L, q) := by
        unfold sumM
        rw [if_neg c, if_neg g]
      rw [eS]
      have s63 : R - L < Bp 63 := Nat.lt_of_le_of_lt (Nat.sub_le _ _) (b16_63 hR)
      have t1 := z_copy (d := d + 2) (σ := σ) (rv := rv) (f := f) (a := 5) (b := 0) (by decide) (by decide) (by decide) hB
      rw [e5] at t1
      have B1 := BM_up (i := 0) hB R64
      have t2 := z_takeM (d := d + 2) (σ := σ) (rv := up rv 0 R) (f := f) (a := 0) (b := 4) (by decide) (by decide) (by decide) B1 (by rw [up_s, up_n (by decide), e4]; omega)
      rw [up_s, up_n (i := 0) (j := 4) (by decide), e4, up_up] at t2
      have B2 := BM_up (i := 0) hB (B64 s63)
      have r1 : up rv 0 (R - L) 1 = q := by rw [up_n (by decide), e1]
      obtain ⟨rv2, f2, b2, g2, hr⟩ := z_mk (d := d) (f := f) (σ := σ) (rv := up rv 0 (R - L)) (s := y) (c := 4) (T := mk3 (y, R - L, q)) hn h60 B2 (by rw [r1]; exact hq0) (by rw [up_s]; exact s63) (by rw [r1]; exact hq) (by rw [r1, up_s])
      refine ⟨rv2, f2, b2, g2, start (b112_46 (fun _ => b112_53 (b112_54 (fun _ => b112_64 (b112_65 k1 t1 ?_)) (fun z => absurd rfl z))) (fun z => absurd (hcz.mpr (by omega)) z))⟩
      exact b112_69 (fun _ => b112_79 (b112_80 k1 t2 (b112_83 (fun _ => b112_92 (b112_93 k1 hr b112_97)) (fun z => absurd rfl z)))) (fun z => absurd rfl z)
end
