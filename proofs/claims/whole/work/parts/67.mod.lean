/-! the reference: act -/
section
variable {d n a b : Nat} {σ : St} {rv : Nat → Nat} {f : Nat → Int32} {sg : Nat → Int} {P Q : Nat → Nat} {S : St}
theorem z_actx0 {x1 x2 x3 : Int32} (hD : Db n sg P Q) (hM : MD σ n sg P Q) (h : ¬ ((∃ a, a < n ∧ x2 = nI a) ∧ ∃ b, b < n ∧ x3 = nI b)) : Ml (d + 2) 101 [.ref 1, .int x1, .int x2, .int x3] σ (.int 0) σ 1 := by
  intro rv f hB
  have hn : gfi (ZS σ rv f) 1 1 = nI n := zn (hM := hM)
  have bad : Er (d + 2) 101 (16, [some (.ref 1), some (.int x1), some (.int x2), some (.int x3), none, none], [], ZS σ rv f) (.inl (some (.int 0)), ZS σ rv (upi f 0 1), 0) := b101_16 k1 z_fails b101_21
  refine ⟨rv, upi f 0 1, hB, upi_s _ _ _, ?_⟩
  by_cases ha : ∃ a, a < n ∧ x2 = nI a
  · obtain ⟨a, ha, rfl⟩ := ha
    have hb : ¬ ∃ b, b < n ∧ x3 = nI b := fun z => h ⟨⟨a, ha, rfl⟩, z⟩
    exact b101_0 k1 (z_num hn hD.1 ha) (b101_5 (fun z => absurd z (by decide)) (fun _ => b101_8 k1 (z_numx hn hD.1 hb) (b101_13 (fun z => absurd rfl z) (fun _ => bad))))
  · exact b101_0 k1 (z_numx hn hD.1 ha) (b101_5 (fun _ => bad) (fun z => absurd rfl z))
theorem z_act22 {x1 : Int32} {q : Rs} (hD : Db n sg P Q) (hM : MD σ n sg P Q) (ha : a < n) (hb : b < n) (h : Er (d + 2) 101 (22, [some (.ref 1), some (.int x1), some (.int (nI a)), some (.int (nI b)), none, none], [], ZS σ rv f) q) : Er (d + 2) 101 (0, ent 101 [.ref 1, .int x1, .int (nI a), .int (nI b)], [], ZS σ rv f) q := by
  have hn : gfi (ZS σ rv f) 1 1 = nI n := zn (hM := hM)
  exact b101_0 k1 (z_num hn hD.1 ha) (b101_5 (fun z => absurd z (by decide)) (fun _ => b101_8 k1 (z_num hn hD.1 hb) (b101_13 (fun _ => h) (fun z => absurd z (by decide)))))
theorem z_act104 {x1 x2 x3 x4 : Int32} : Er (d + 2) 101 (104, [some (.ref 1), some (.int x1), some (.int x2), some (.int x3), some (.int x4), none], [], ZS σ rv f) (.inl (some (.int 0)), ZS σ rv (upi f 0 2), 0) :=
  b101_104 (b101_105 (fun z => absurd rfl z) (fun _ => b101_112 k1 z_fails b101_117))
theorem z_actx1 {x1 : Int32} (hD : Db n sg P Q) (hM : MD σ n sg P Q) (ha : a < n) (hb : b < n) (h : ¬ ∃ k, x1 = nI k ∧ k < 2 ^ 31 ∧ Fit k (Q a) (P b) (Q b)) : Ml (d + 3) 101 [.ref 1, .int x1, .int (nI a), .int (nI b)] σ (.int 0) σ 2 := by
  intro rv f hB
  have bad : ∀ {f2 : Nat → Int32}, f2 = f → Er (d + 3) 101 (36, [some (.ref 1), some (.int x1), some (.int (nI a)), some (.int (nI b)), none, none], [], ZS σ rv f) (.inl (some (.int 0)), ZS σ rv (upi f2 0 2), 0) := by
    intro f2 e
    rw [e]
    exact b101_36 (b101_37 (fun _ => z_act104) (fun z => absurd rfl z))
  by_cases c0 : x1 < 0
  · exact ⟨rv, upi f 0 2, hB, upi_s _ _ _, z_act22 hD hM ha hb (b101_22 (fun _ => bad rfl) (fun z => absurd c0 z))⟩
  by_cases c1 : 12 < x1
  · exact ⟨rv, upi f 0 2, hB, upi_s _ _ _, z_act22 hD hM ha hb (b101_22 (fun z => absurd z c0) (fun _ => b101_26 (fun _ => bad rfl) (fun z => absurd c1 z)))⟩
  obtain ⟨k, hk, rfl⟩ := nI_of c0
  rw [show (12 : Int32) = nI 12 from rfl, nI_ltI (by decide) hk] at c1
  have hF : ¬ Fit k (Q a) (P b) (Q b) := fun z => h ⟨k, rfl, hk, z⟩
  have kI : ∀ j, j < 2 ^ 31 → (nI k = nI j ↔ k = j) := fun j hj => nI_eq (by omega) hj
  have start : ∀ {q : Rs}, Er (d + 3) 101 (44, [some (.ref 1), some (.int (nI k)), some (.int (nI a)), some (.int (nI b)), some (.int 1), none], [], ZS σ rv f) q → Er (d + 3) 101 (0, ent 101 [.ref 1, .int (nI k), .int (nI a), .int (nI b)], [], ZS σ rv f) q := fun hq =>
    z_act22 hD hM ha hb (b101_22 (fun z => absurd z (nI_pos hk)) (fun _ => b101_26 (fun z => absurd ((nI_ltI (a := 12) (by decide) hk).mp z) c1) (fun _ => b101_32 (b101_37 (fun z => absurd z (by decide)) (fun _ => hq)))))
  have k8 : k = 8 ∨ k = 9 ∨ k = 10 := by
    apply Classical.byContradiction
    intro e
    exact hF ⟨by omega, fun z => absurd (Or.inl z) e, fun z => absurd (Or.inr (Or.inl z)) e, fun z => absurd (Or.inr (Or.inr z)) e⟩
  rcases k8 with rfl | rfl | rfl
  · refine ⟨rv, upi f 0 2, hB, upi_s _ _ _, start (b101_44 (fun z => absurd rfl z) (fun _ => b101_50 k1 (z_isWhole hD hM ha) ?_))⟩
    by_cases e1 : Q a = 1
    · rw [if_pos e1]
      refine b101_55 (fun z => absurd z (by decide)) (fun _ => b101_58 k1 (z_isWhole hD hM hb) ?_)
      by_cases e2 : Q b = 1
      · exact absurd ⟨by decide, fun _ => ⟨e1, e2⟩, fun z => absurd z (by decide), fun z => absurd z (by decide)⟩ hF
      · rw [if_neg e2]
        exact b101_63 (fun _ => z_act104) (fun z => absurd rfl z)
    · rw [if_neg e1]
      exact b101_55 (fun _ => z_act104) (fun z => absurd rfl z)
  · have hs := z_isSmall (d := d) (σ := σ) (rv := rv) (f := f) (m := 300) hD hM hb (by decide)
    have hF2 : ¬ (Q b = 1 ∧ P b ≤ 300) := fun z => hF ⟨by decide, fun y => absurd y (by decide), fun _ => z, fun y => absurd y (by decide)⟩
    rw [if_neg hF2, if_neg hF2] at hs
    exact ⟨rv, upi (upi f 5 0) 0 2, hB, upi_s _ _ _, start (b101_44 (fun _ => b101_66 (fun z => absurd rfl z) (fun _ => b101_72 k1 hs (b101_80 (fun _ => z_act104) (fun z => absurd rfl z)))) (fun z => absurd z (by decide)))⟩
  · have hs := z_isSmall (d := d) (σ := σ) (rv := rv) (f := f) (m := 600) hD hM hb (by decide)
    have hF2 : ¬ (Q b = 1 ∧ P b ≤ 600) := fun z => hF ⟨by decide, fun y => absurd y (by decide), fun y => absurd y (by decide), fun _ => z⟩
    rw [if_neg hF2, if_neg hF2] at hs
    exact ⟨rv, upi (upi f 5 0) 0 2, hB, upi_s _ _ _, start (b101_44 (fun _ => b101_66 (fun _ => b101_83 (fun z => absurd rfl z) (fun _ => b101_89 k1 hs (b101_97 (fun _ => z_act104) (fun z => absurd rfl z)))) (fun z => absurd z (by decide))) (fun z => absurd z (by decide)))⟩
/-- a fitting act comes to 118, its small number kept -/
theorem z_act118 {k : Nat} (hD : Db n sg P Q) (hM : MD σ n sg P Q) (ha : a < n) (hb : b < n) (h : Fit k (Q a) (P b) (Q b)) : ∃ f2 : Nat → Int32, (k = 9 ∨ k = 10 → f2 5 = iZ (sg b * P b)) ∧ ∀ {q : Rs}, Er (d + 3) 101 (118, [some (.ref 1), some (.int (nI k)), some (.int (nI a)), some (.int (nI b)), some (.int 1), none], [], ZS σ rv f2) q → Er (d + 3) 101 (0, ent 101 [.ref 1, .int (nI k), .int (nI a), .int (nI b)], [], ZS σ rv f) q := by
  obtain ⟨h12, h8, h9, h10⟩ := h
  have hk : k < 2 ^ 31 := by omega
  have kI : ∀ j, j < 2 ^ 31 → (nI k = nI j ↔ k = j) := fun j hj => nI_eq (by omega) hj
  have start : ∀ {q : Rs}, Er (d + 3) 101 (44, [some (.ref 1), some (.int (nI k)), some (.int (nI a)), some (.int (nI b)), some (.int 1), none], [], ZS σ rv f) q → Er (d + 3) 101 (0, ent 101 [.ref 1, .int (nI k), .int (nI a), .int (nI b)], [], ZS σ rv f) q := fun hq =>
    z_act22 hD hM ha hb (b101_22 (fun z => absurd z (nI_pos hk)) (fun _ => b101_26 (fun z => absurd ((nI_ltI (a := 12) (by decide) hk).mp z) (by omega)) (fun _ => b101_32 (b101_37 (fun z => absurd z (by decide)) (fun _ => hq)))))
  have good : ∀ {f2 : Nat → Int32} {q : Rs}, Er (d + 3) 101 (118, [some (.ref 1), some (.int (nI k)), some (.int (nI a)), some (.int (nI b)), some (.int 1), none], [], ZS σ rv f2) q → Er (d + 3) 101 (100, [some (.ref 1), some (.int (nI k)), some (.int (nI a)), some (.int (nI b)), some (.int 1), none], [], ZS σ rv f2) q := fun hq =>
    b101_100 (b101_105 (fun _ => hq) (fun z => absurd z (by decide)))
  by_cases k9 : k = 9
  · have hs := z_isSmall (d := d) (σ := σ) (rv := rv) (f := f) (m := 300) hD hM hb (by decide)
    rw [if_pos (h9 k9), if_pos (h9 k9)] at hs
    refine ⟨upi f 5 (iZ (sg b * P b)), fun _ => upi_s _ _ _, fun hq => start (b101_44 (fun _ => b101_66 (fun z => absurd ((kI 9 (by decide)).mpr k9) z) (fun _ => b101_72 k1 hs (b101_80 (fun z => absurd z (by decide)) (fun _ => b101_83 (fun _ => good hq) (fun z => absurd ((kI 10 (by decide)).mp z) (by omega)))))) (fun z => absurd ((kI 8 (by decide)).mp z) (by omega)))⟩
  by_cases k10 : k = 10
  · have hs := z_isSmall (d := d) (σ := σ) (rv := rv) (f := f) (m := 600) hD hM hb (by decide)
    rw [if_pos (h10 k10), if_pos (h10 k10)] at hs
    refine ⟨upi f 5 (iZ (sg b * P b)), fun _ => upi_s _ _ _, fun hq => start (b101_44 (fun _ => b101_66 (fun _ => b101_83 (fun z => absurd ((kI 10 (by decide)).mpr k10) z) (fun _ => b101_89 k1 hs (b101_97 (fun z => absurd z (by decide)) (fun _ => good hq)))) (fun z => absurd ((kI 9 (by decide)).mp z) k9)) (fun z => absurd ((kI 8 (by decide)).mp z) (by omega)))⟩
  refine ⟨f, fun z => by omega, fun hq => ?_⟩
  have rest : Er (d + 3) 101 (66, [some (.ref 1), some (.int (nI k)), some (.int (nI a)), some (.int (nI b)), some (.int 1), none], [], ZS σ rv f) _ := b101_66 (fun _ => b101_83 (fun _ => good hq) (fun z => absurd ((kI 10 (by decide)).mp z) k10)) (fun z => absurd ((kI 9 (by decide)).mp z) k9)
  by_cases k8 : k = 8
  · have wa := z_isWhole (d := d + 1) (σ := σ) (rv := rv) (f := f) hD hM ha
    have wb := z_isWhole (d := d + 1) (σ := σ) (rv := rv) (f := f) hD hM hb
    rw [if_pos (h8 k8).1] at wa
    rw [if_pos (h8 k8).2] at wb
    exact start (b101_44 (fun z => absurd ((kI 8 (by decide)).mpr k8) z) (fun _ => b101_50 k1 wa (b101_55 (fun z => absurd z (by decide)) (fun _ => b101_58 k1 wb (b101_63 (fun z => absurd z (by decide)) (fun _ => rest))))))
  · exact start (b101_44 (fun _ => rest) (fun z => absurd ((kI 8 (by decide)).mp z) k8))
theorem sgz (hD : Db n sg P Q) (ha : a < n) : iZ (sg a) = 0 ↔ sg a = 0 := by
  have h1 := (hD.num ha).s
  rw [iZ0]
  exact iz_eq (by omega) (by omega) (by omega) (by omega)
/-- the small number: its sign and size -/
theorem smlz (hD : Db n sg P Q) (hb : b < n) : (sg b * P b < 0 ↔ sg b < 0) ∧ (sg b * P b).natAbs = P b := by
  obtain ⟨_, _, _, _, h⟩ := hD.2 b hb
  rcases h with ⟨h1, h2⟩ | ⟨h1, h2 | h2⟩
  · rw [h1, h2]; omega
  · rw [h2]; omega
  · rw [h2]; omega
/-- what the reference asks of the divisor -/
theorem z_act166 {k : Nat} (hD : Db n sg P Q) (hM : MD σ n sg P Q) (ha : a < n) (hb : b < n) (hk : k ≤ 12) (hs : k = 9 → P b ≤ 300 ∧ f 5 = iZ (sg b * P b)) : (Dz k (sg a) (sg b) → Er (d + 2) 101 (118, [some (.ref 1), some (.int (nI k)), some (.int (nI a)), some (.int (nI b)), some (.int 1), none], [], ZS σ rv f) (.inl (some (.int 0)), ZS σ rv (upi f 0 3), 0)) ∧ (¬ Dz k (sg a) (sg b) → ∀ {q : Rs}, Er (d + 2) 101 (166, [some (.ref 1), some (.int (nI k)), some (.int (nI a)), some (.int (nI b)), some (.int 1), none], [], ZS σ rv f) q → Er (d + 2) 101 (118, [some (.ref 1), some (.int (nI k)), some (.int (nI a)), some (.int (nI b)), some (.int 1), none], [], ZS σ rv f) q) := by
  have h60 := hD.1
  have kI : ∀ j, j < 2 ^ 31 → (nI k = nI j ↔ k = j) := fun j hj => nI_eq (by omega) hj
  have kl : ∀ j, j < 2 ^ 31 → (nI k < nI j ↔ k < j) := fun j hj => nI_ltI (by omega) hj
  have kg : ∀ j, j < 2 ^ 31 → (nI j < nI k ↔ j < k) := fun j hj => nI_ltI hj (by omega)
  have bad : Er (d + 2) 101 (160, [some (.ref 1), some (.int (nI k)), some (.int (nI a)), some (.int (nI b)), some (.int 1), none], [], ZS σ rv f) (.inl (some (.int 0)), ZS σ rv (upi f 0 3), 0) := b101_160 k1 z_fails b101_165
  have s9 : k = 9 → (0 ≤ gfi (ZS σ rv f) 1 5 ↔ ¬ sg b < 0) := by
    intro e
    obtain ⟨hp, hf⟩ := hs e
    have h1 := (hD.num hb).s
    have h2 := smlz hD hb
    have h3 : sg b * (P b : Int) ≤ 300 ∧ -300 ≤ sg b * (P b : Int) := by omega
    rw [ZS_get (by decide), hf, iZ0, iZ_le (by decide) (by decide) (by omega) (by omega)]
    omega
  unfold Dz
  constructor
  · intro hz
    rcases hz with ⟨h3, hy⟩ | ⟨h9, hx, hy⟩
    · refine b101_118 (fun z => absurd ((kl 3 (by decide)).mp z) (by omega)) (fun _ => b101_123 (fun z => absurd ((kg 7 (by decide)).mp z) (by omega)) (fun _ => b101_129 k1 (by decide) (in42 h60 hb) (fun _ => bad) (fun z => ?_)))
      rw [z_sg hD hM hb, sgz hD hb] at z
      exact absurd hy z
    · refine b101_118 (fun z => absurd ((kl 3 (by decide)).mp z) (by omega)) (fun _ => b101_123 (fun _ => b101_138 (fun z => absurd ((kI 9 (by decide)).mpr h9) z) (fun _ => b101_144 k1 (fun z => absurd hy ((s9 h9).mp z)) (fun _ => b101_151 k1 (by decide) (in42 h60 ha) (fun z => ?_) (fun _ => bad)))) (fun z => absurd ((kg 7 (by decide)).mpr (by omega)) z))
      rw [z_sg hD hM ha, sgz hD ha] at z
      exact absurd hx z
  · intro hz q hq
    have r138 : Er (d + 2) 101 (138, [some (.ref 1), some (.int (nI k)), some (.int (nI a)), some (.int (nI b)), some (.int 1), none], [], ZS σ rv f) q := by
      refine b101_138 (fun _ => hq) (fun z => ?_)
      have h9 := (kI 9 (by decide)).mp z
      refine b101_144 k1 (fun _ => hq) (fun w => b101_151 k1 (by decide) (in42 h60 ha) (fun _ => hq) (fun y => ?_))
      rw [z_sg hD hM ha, sgz hD ha] at y
      have w2 : sg b < 0 := Classical.byContradiction (fun e => w ((s9 h9).mpr e))
      exact absurd (Or.inr ⟨h9, y, w2⟩) hz
    refine b101_118 (fun _ => r138) (fun z => b101_123 (fun _ => r138) (fun w => b101_129 k1 (by decide) (in42 h60 hb) (fun y => ?_) (fun _ => r138)))
    rw [z_sg hD hM hb, sgz hD hb] at y
    have a1 : ¬ k < 3 := fun e => z ((kl 3 (by decide)).mpr e)
    have a2 : ¬ 7 < k := fun e => w ((kg 7 (by decide)).mpr e)
    exact absurd (Or.inl ⟨⟨by omega, by omega⟩, y⟩) hz
theorem z_actx2 {k : Nat} (hD : Db n sg P Q) (hM : MD σ n sg P Q) (ha : a < n) (hb : b < n) (h : Fit k (Q a) (P b) (Q b)) (hz : Dz k (sg a) (sg b)) : Ml (d + 3) 101 [.ref 1, .int (nI k), .int (nI a), .int (nI b)] σ (.int 0) σ 3 := by
  intro rv f hB
  obtain ⟨f2, h5, go⟩ := z_act118 (d := d) (σ := σ) (rv := rv) (f := f) hD hM ha hb h
  exact ⟨rv, upi f2 0 3, hB, upi_s _ _ _, go ((z_act166 hD hM ha hb h.1 (fun e => ⟨(h.2.2.1 e).2, h5 (Or.inl e)⟩)).1 hz)⟩
theorem z_act {k : Nat} (hD : Db n sg P Q) (hM : MD σ n sg P Q) (ha : a < n) (hb : b < n) (h : Fit k (Q a) (P b) (Q b)) (hz : ¬ Dz k (sg a) (sg b)) : Ml (d + 6) 101 [.ref 1, .int (nI k), .int (nI a), .int (nI b)] σ (.int (maV n (actT k sg P Q a b))) (maS σ n (actT k sg P Q a b)) (maC n (actT k sg P Q a b) 4) := by
  intro rv f hB
  obtain ⟨f2, h5, go⟩ := z_act118 (d := d + 3) (σ := σ) (rv := rv) (f := f) hD hM ha hb h
  have start : ∀ {q : Rs}, Er (d + 6) 101 (166, [some (.ref 1), some (.int (nI k)), some (.int (nI a)), some (.int (nI b)), some (.int 1), none], [], ZS σ rv f2) q → Er (d + 6) 101 (0, ent 101 [.ref 1, .int (nI k), .int (nI a), .int (nI b)], [], ZS σ rv f) q := fun hq => go ((z_act166 (d := d + 4) (σ := σ) (rv := rv) (f := f2) hD hM ha hb h.1 (fun e => ⟨(h.2.2.1 e).2, h5 (Or.inl e)⟩)).2 hz hq)
  obtain ⟨h12, h8, h9, h10⟩ := h
  have h60 := hD.1
  have hn := hM.1
  obtain ⟨pa, qa, qa0, ga, _⟩ := hD.2 a ha
  obtain ⟨pb, qb, qb0, _, sb⟩ := hD.2 b hb
  have h13 : (1 : Nat) < Bp 63 := B63 (k := 1) (by decide) (by decide)
  have kI : ∀ j, j < 2 ^ 31 → (nI k = nI j ↔ k = j) := fun j hj => nI_eq (by omega) hj
  have kl : ∀ j, j < 2 ^ 31 → (nI k < nI j ↔ k < j) := fun j hj => nI_ltI (by omega) hj
  have sm := smlz hD hb
  by_cases k9 : k = 9
  · -- a power
    subst k9
    have g5 : gfi (ZS σ rv f2) 1 5 = iZ (sg b * P b) := by rw [ZS_get (by decide)]; exact h5 (Or.inl rfl)
    have p300 := (h9 rfl).2
    obtain ⟨rv2, f3, b3, w3, hr⟩ := z_power (d := d + 1) (σ := σ) (rv := rv) (f := f2) (z := sg b * P b) hD hM ha (by omega) (by omega) (by
      intro hneg
      have hy := sm.1.mp hneg
      obtain ⟨_, _, _, _, sa⟩ := hD.2 a ha
      have : sg a ≠ 0 := fun e => hz (Or.inr ⟨rfl, e, hy⟩)
      omega) hB
    have eT : actT 9 sg P Q a b = mk3 (powT (sg b * P b) (sg a) (P a) (Q a)) := by
      unfold actT powT
      rw [sm.2]
      show mk3 (if sg a < 0 ∧ P b % 2 = 1 then -1 else 1, (if sg b < 0 then Q a else P a) ^ P b, (if sg b < 0 then P a else Q a) ^ P b) = _
      by_cases c : sg b < 0
      · rw [if_pos c, if_pos c, if_pos (sm.1.mpr c), if_pos (sm.1.mpr c)]
      · rw [if_neg c, if_neg c, if_neg (fun e => c (sm.1.mp e)), if_neg (fun e => c (sm.1.mp e))]
    rw [eT]
    refine ⟨rv2, f3, b3, w3, start (b101_166 (fun z => absurd rfl z) (fun _ => b101_172 k1 ?_ b101_181))⟩
    rw [g5]
    exact hr
  by_cases k11 : k < 11
  · have start2 : ∀ {q : Rs}, Er (d + 6) 101 (250, [some (.ref 1), some (.int (nI k)), some (.int (nI a)), some (.int (nI b)), some (.int 1), none], [], ZS σ rv f2) q → Er (d + 6) 101 (0, ent 101 [.ref 1, .int (nI k), .int (nI a), .int (nI b)], [], ZS σ rv f) q := fun hq =>
      start (b101_166 (fun _ => b101_182 (fun _ => hq) (fun z => absurd ((kl 11 (by decide)).mpr k11) z)) (fun z => absurd ((kI 9 (by decide)).mp z) k9))
    by_cases k8 : k = 8
    · -- the greatest common divisor
      subst k8
      have C1 := BM_up (i := 2) hB (Bp8_64 pa)
      have C2 := BM_up (i := 3) C1 (Bp8_64 pb)
      obtain ⟨x, hx, tg⟩ := z_gcd (d := d + 3) (σ := σ) (rv := up (up rv 2 (P a)) 3 (P b)) (f := f2) (a := 2) (b := 3) (by decide) (by decide) C2
      rw [up_s, up_n (i := 3) (j := 2) (by decide), up_s] at tg
      obtain ⟨G, hG⟩ : ∃ G, G = Nat.gcd (P a) (P b) := ⟨_, rfl⟩
      rw [← hG] at tg
      have hG63 : G < Bp 63 := by
        rw [hG]
        rcases Nat.eq_zero_or_pos (P a) with e | e
        · rw [e, Nat.gcd_zero_left]; exact b8_63 pb
        · exact Nat.lt_of_le_of_lt (Nat.gcd_le_left _ e) (b8_63 pa)
      have C4 := BM_up (i := 15) (BM_up (i := 14) C2 (B64 hG63)) hx
      have t4 := z_copy (d := d + 4) (σ := σ) (rv := up (up (up (up rv 2 (P a)) 3 (P b)) 14 G) 15 x) (f := f2) (a := 14) (b := 0) (by decide) (by decide) (by decide) C4
      rw [up_n (i := 15) (j := 14) (by decide), up_s] at t4
      have C5 := BM_up (i := 0) C4 (B64 hG63)
      obtain ⟨r5, e5⟩ : ∃ r5, r5 = up (up (up (up (up rv 2 (P a)) 3 (P b)) 14 G) 15 x) 0 G := ⟨_, rfl⟩
      rw [← e5] at t4 C5
      have C6 := BM_up (i := 1) C5 (B64 h13)
      have u0 : up r5 1 1 0 = G := by rw [up_n (by decide), e5, up_s]
      have u1 : up r5 1 1 1 = 1 := up_s _ _ _
      obtain ⟨rv2, f3, b3, w3, hr⟩ := z_mk (d := d + 2) (f := f2) (σ := σ) (rv := up r5 1 1) (s := 1) (c := 4) (T := mk3 (1, G, 1)) hn h60 C6 (by rw [u1]; decide) (by rw [u0]; exact hG63) (by rw [u1]; exact h13) (by rw [u0, u1])
      have eT : actT 8 sg P Q a b = mk3 (1, G, 1) := by rw [hG]; rfl
      rw [eT]
      exact ⟨rv2, f3, b3, w3, start2 (b101_250 (fun z => absurd rfl z) (fun _ => b101_256 k1 (z_loadP (r := 2) hD hM ha (by decide) hB) (b101_262 k1 (z_loadP (r := 3) hD hM hb (by decide) C1) (b101_268 k1 tg (b101_274 k1 t4 (b101_281 k1 (z_set (r := 1) (n := 1) (by decide) C5 (by decide)) (b101_287 k1 hr b101_293)))))))⟩
    · by_cases k10 : k = 10
      · -- doubled
        subst k10
        have p600 := (h10 rfl).2
        have g5 : ∀ rw, gfi (ZS σ rw f2) 1 5 = iZ (sg b * P b) := by intro rw; rw [ZS_get (by decide)]; exact h5 (Or.inr rfl)
        have C1 := BM_up (i := 0) hB (Bp8_64 pa)
        have C2 := BM_up (i := 1) C1 (Bp8_64 qa)
        have w0 : up (up rv 0 (P a)) 1 (Q a) 0 = P a := by rw [up_n (by decide), up_s]
        have w1 : up (up rv 0 (P a)) 1 (Q a) 1 = Q a := up_s _ _ _
        have zc : ∀ rw, gfi (ZS σ rw f2) 1 5 ≤ 0 ↔ sg b * P b ≤ 0 := by
          intro rw
          rw [g5, iZ0]
          exact iZ_le (by omega) (by omega) (by decide) (by decide)
        have pP : P a * 2 ^ P b < Bp 63 := mp_lt (k := 256) pa (by omega)
        have pQ : Q a * 2 ^ P b < Bp 63 := mp_lt (k := 256) qa (by omega)
        have start3 : ∀ {q : Rs}, Er (d + 6) 101 (312, [some (.ref 1), some (.int (nI 10)), some (.int (nI a)), some (.int (nI b)), some (.int 1), none], [], ZS σ (up (up rv 0 (P a)) 1 (Q a)) f2) q → Er (d + 6) 101 (0, ent 101 [.ref 1, .int (nI 10), .int (nI a), .int (nI b)], [], ZS σ rv f) q := fun hq =>
          start2 (b101_250 (fun _ => b101_294 (fun z => absurd rfl z) (fun _ => b101_300 k1 (z_loadP (r := 0) hD hM ha (by decide) hB) (b101_306 k1 (z_loadQ (r := 1) hD hM ha (by decide) C1) hq))) (fun z => absurd z (by decide)))
        have eT : actT 10 sg P Q a b = mk3 (sg a, if 0 < sg b * P b then P a * 2 ^ P b else P a, if 0 < sg b * P b then Q a else Q a * 2 ^ P b) := rfl
        rw [eT]
        by_cases c : 0 < sg b * P b
        · rw [if_pos c, if_pos c]
          have tu := z_up (d := d + 4) (σ := σ) (rv := up (up rv 0 (P a)) 1 (Q a)) (f := f2) (r := 0) (n := P b) (by decide) C2 (by omega) (by rw [w0]; exact B64 pP)
          rw [w0] at tu
          have D1 := BM_up (i := 0) C2 (B64 pP)
          have u1 : up (up (up rv 0 (P a)) 1 (Q a)) 0 (P a * 2 ^ P b) 1 = Q a := by rw [up_n (by decide), up_s]
          obtain ⟨rv2, f3, b3, w3, hr⟩ := z_mk (d := d + 2) (f := f2) (σ := σ) (rv := up (up (up rv 0 (P a)) 1 (Q a)) 0 (P a * 2 ^ P b)) (s := sg a) (c := 4) (T := mk3 (sg a, P a * 2 ^ P b, Q a)) hn h60 D1 (by rw [u1]; exact qa0) (by rw [up_s]; exact pP) (by rw [u1]; exact b8_63 qa) (by rw [u1, up_s])
          have e : iZ (sg b * P b) = nI (P b) := by
            rw [← iZ_N]
            congr 1
            omega
          refine ⟨rv2, f3, b3, w3, start3 (b101_312 k1 (fun z => absurd ((zc _).mp z) (by omega)) (fun _ => b101_320 (b101_325 k1 (fun z => absurd ((zc _).mp z) (by omega)) (fun _ => b101_332 k1 ?_))))⟩
          rw [g5, e]
          refine b101_344 k1 tu (b101_347 k1 (by decide) (in42 h60 ha) ?_ b101_358)
          rw [z_sg hD hM ha]
          exact hr
        · rw [if_neg c, if_neg c]
          have tu := z_up (d := d + 4) (σ := σ) (rv := up (up rv 0 (P a)) 1 (Q a)) (f := f2) (r := 1) (n := P b) (by decide) C2 (by omega) (by rw [w1]; exact B64 pQ)
          rw [w1, up_up] at tu
          have D1 := BM_up (i := 1) C1 (B64 pQ)
          have u0 : up (up rv 0 (P a)) 1 (Q a * 2 ^ P b) 0 = P a := by rw [up_n (by decide), up_s]
          have u1 : up (up rv 0 (P a)) 1 (Q a * 2 ^ P b) 1 = Q a * 2 ^ P b := up_s _ _ _
          obtain ⟨rv2, f3, b3, w3, hr⟩ := z_mk (d := d + 2) (f := f2) (σ := σ) (rv := up (up rv 0 (P a)) 1 (Q a * 2 ^ P b)) (s := sg a) (c := 4) (T := mk3 (sg a, P a, Q a * 2 ^ P b)) hn h60 D1 (by rw [u1]; exact Nat.mul_pos qa0 (Nat.two_pow_pos _)) (by rw [u0]; exact b8_63 pa) (by rw [u1]; exact pQ) (by rw [u0, u1])
          have e : -iZ (sg b * P b) = nI (P b) := by
            rw [iZ_neg, ← iZ_N]
            congr 1
            omega
          refine ⟨rv2, f3, b3, w3, start3 (b101_312 k1 (fun _ => b101_324 (b101_325 k1 (fun _ => b101_339 k1 ?_) (fun z => absurd ((zc _).mpr (by omega)) z))) (fun z => absurd ((zc _).mpr (by omega)) z))⟩
          rw [g5, e]
          refine b101_344 k1 tu (b101_347 k1 (by decide) (in42 h60 ha) ?_ b101_358)
          rw [z_sg hD hM ha]
          exact hr
      · obtain ⟨rv2, f3, b3, w3, hr⟩ := z_reckon (d := d) (σ := σ) (rv := rv) (f := f2) (k := k) (by omega) hD hM ha hb hz hB
        exact ⟨rv2, f3, b3, w3, start2 (b101_250 (fun _ => b101_294 (fun _ => b101_359 k1 hr b101_366) (fun z => absurd ((kI 10 (by decide)).mp z) k10)) (fun z => absurd ((kI 8 (by decide)).mp z) k8))⟩
  · -- the lesser, the greater
    obtain ⟨rv1, B1, ho⟩ := z_ord (d := d + 1) (σ := σ) (rv := rv) (f := f2) hD hM ha hb hB
    obtain ⟨o, eo⟩ : ∃ o, o = ordZ (sg a) (sg b) (P a * Q b) (P b * Q a) := ⟨_, rfl⟩
    rw [← eo] at ho
    have ho3 : -1 ≤ o ∧ o ≤ 1 := by
      have h1 := (hD.num ha).s
      have h2 := (hD.num hb).s
      have hcz : ∀ x y : Int, cz x y = 0 ∨ cz x y = 1 ∨ cz x y = -1 := by
        intro x y
        unfold cz
        split
        · exact Or.inl rfl
        · split
          · exact Or.inr (Or.inr rfl)
          · exact Or.inr (Or.inl rfl)
      rw [eo]
      unfold ordZ
      split
      · have := s3 h1 (hcz ((P a * Q b : Nat) : Int) ((P b * Q a : Nat) : Int))
        omega
      · have := hcz (sg a) (sg b)
        omega
    have oc : 0 < iZ o ↔ 0 < o := by
      rw [iZ0]
      exact iZ_lt (by decide) (by decide) (by omega) (by omega)
    obtain ⟨c, hc, eT, pick⟩ : ∃ c, c < n ∧ actT k sg P Q a b = mk3 (sg c, P c, Q c) ∧ ∀ {q : Rs}, Er (d + 6) 101 (221, [some (.ref 1), some (.int (nI k)), some (.int (nI a)), some (.int (nI b)), some (.int 1), none], [.int (nI c)], ZS σ rv1 (upi f2 0 0)) q → Er (d + 6) 101 (194, [some (.ref 1), some (.int (nI k)), some (.int (nI a)), some (.int (nI b)), some (.int 1), none], [.int (iZ o)], ZS σ rv1 (upi f2 0 0)) q := by
      rcases (show k = 11 ∨ k = 12 by omega) with rfl | rfl
      · have eA : actT 11 sg P Q a b = mk3 (if o ≤ 0 then (sg a, P a, Q a) else (sg b, P b, Q b)) := by rw [eo]; rfl
        by_cases g : 0 < o
        · rw [if_neg (by omega)] at eA
          exact ⟨b, hb, eA, fun hq => b101_194 (fun _ => b101_201 (b101_202 (fun z => absurd rfl z) (fun _ => b101_208 (b101_213 (fun _ => b101_220 hq) (fun z => absurd z (by decide)))))) (fun z => absurd (oc.mpr g) z)⟩
        · rw [if_pos (by omega)] at eA
          exact ⟨a, ha, eA, fun hq => b101_194 (fun z => absurd (oc.mp z) g) (fun _ => b101_197 (b101_202 (fun z => absurd rfl z) (fun _ => b101_208 (b101_213 (fun z => absurd rfl z) (fun _ => b101_216 hq)))))⟩
      · have eA : actT 12 sg P Q a b = mk3 (if 0 < o then (sg a, P a, Q a) else (sg b, P b, Q b)) := by rw [eo]; rfl
        by_cases g : 0 < o
        · rw [if_pos g] at eA
          exact ⟨a, ha, eA, fun hq => b101_194 (fun _ => b101_201 (b101_202 (fun _ => b101_212 (b101_213 (fun z => absurd rfl z) (fun _ => b101_216 hq))) (fun z => absurd z (by decide)))) (fun z => absurd (oc.mpr g) z)⟩
        · rw [if_neg g] at eA
          exact ⟨b, hb, eA, fun hq => b101_194 (fun z => absurd (oc.mp z) g) (fun _ => b101_197 (b101_202 (fun _ => b101_212 (b101_213 (fun _ => b101_220 hq) (fun z => absurd z (by decide)))) (fun z => absurd z (by decide))))⟩
    rw [eT]
    obtain ⟨pc, qc, qc0, _⟩ := hD.2 c hc
    have C1 := BM_up (i := 0) B1 (Bp8_64 pc)
    have C2 := BM_up (i := 1) C1 (Bp8_64 qc)
    have u0 : up (up rv1 0 (P c)) 1 (Q c) 0 = P c := by rw [up_n (by decide), up_s]
    have u1 : up (up rv1 0 (P c)) 1 (Q c) 1 = Q c := up_s _ _ _
    obtain ⟨rv2, f3, b3, w3, hr⟩ := z_mk (d := d + 2) (f := upi f2 0 0) (σ := σ) (rv := up (up rv1 0 (P c)) 1 (Q c)) (s := sg c) (c := 4) (T := mk3 (sg c, P c, Q c)) hn h60 C2 (by rw [u1]; exact qc0) (by rw [u0]; exact b8_63 pc) (by rw [u1]; exact b8_63 qc) (by rw [u0, u1])
    refine ⟨rv2, f3, b3, w3, start (b101_166 (fun _ => b101_182 (fun z => absurd ((kl 11 (by decide)).mp z) k11) (fun _ => b101_188 k1 ho (pick (b101_221 k1 (z_loadP (r := 0) hD hM hc (by decide) B1) (b101_230 k1 (z_loadQ (r := 1) hD hM hc (by decide) C1) (b101_237 k1 (by decide) (in42 h60 hc) ?_ b101_249)))))) (fun z => absurd ((kI 9 (by decide)).mp z) k9))⟩
    rw [z_sg hD hM hc]
    exact hr
end
