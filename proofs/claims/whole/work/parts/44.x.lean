/-! NumberModels: numbers held -/
def Db (n : Nat) (sg : Nat → Int) (P Q : Nat → Nat) : Prop := n ≤ 60 ∧ ∀ a, a < n → P a < Bp 8 ∧ Q a < Bp 8 ∧ 0 < Q a ∧ Nat.gcd (P a) (Q a) = 1 ∧ ((P a = 0 ∧ sg a = 0) ∨ (0 < P a ∧ (sg a = 1 ∨ sg a = -1)))
def CD (σ : St) (n : Nat) (sg : Nat → Int) (P Q : Nat → Nat) : Prop := gfi σ 0 2 = nI n ∧ ∀ a, a < n → gai σ 41 a = iZ (sg a) ∧ (∀ k, k < 8 → gal σ 40 (a * 16 + k) = lN (dg (P a) k)) ∧ (∀ k, k < 8 → gal σ 40 (a * 16 + 8 + k) = lN (dg (Q a) k))
def upZ (sg : Nat → Int) (i : Nat) (v : Int) : Nat → Int := fun j => if j = i then v else sg j
def kept (σ : St) (n : Nat) (s : Int32) (p q : Nat) : St := sfi (sar (sai σ 41 n s) 40 (gvw (gvw (gal σ 40) (n * 16) p) (n * 16 + 8) q)) 0 2 (nI (n + 1))
theorem lt640 {x : Nat} (h : x < Bp 8) : x < 2 ^ 640 := Nat.lt_of_lt_of_le h (show 2 ^ (32 * 8) ≤ 2 ^ 640 from Nat.pow_le_pow_right (by decide) (by decide))
theorem CD_kept {σ : St} {n p q : Nat} {s : Int} {sg : Nat → Int} {P Q : Nat → Nat} (h : CD σ n sg P Q) : CD (kept σ n (iZ s) p q) (n + 1) (upZ sg n s) (up P n p) (up Q n q) := by
  have gA : gai (kept σ n (iZ s) p q) 41 = upd (gai σ 41) n (iZ s) := rfl
  have gL : gal (kept σ n (iZ s) p q) 40 = gvw (gvw (gal σ 40) (n * 16) p) (n * 16 + 8) q := rfl
  refine ⟨by unfold kept; rw [gfi_sfi, if_pos ⟨rfl, rfl⟩], ?_⟩
  intro a ha
  rw [gA, gL]
  by_cases e : a = n
  · subst e
    refine ⟨?_, ?_, ?_⟩
    · rw [pk_us]
      unfold upZ
      rw [if_pos rfl]
    · intro k hk
      unfold gvw
      rw [if_neg (by omega), if_pos (by omega), up_s, show a * 16 + k - a * 16 = k by omega]
    · intro k hk
      unfold gvw
      rw [if_pos (by omega), up_s, show a * 16 + 8 + k - (a * 16 + 8) = k by omega]
  · obtain ⟨h1, h2, h3⟩ := h.2 a (by omega)
    refine ⟨?_, ?_, ?_⟩
    · rw [pk_un e, h1]
      unfold upZ
      rw [if_neg e]
    · intro k hk
      unfold gvw
      rw [if_neg (by omega), if_neg (by omega), up_n e, h2 k hk]
    · intro k hk
      unfold gvw
      rw [if_neg (by omega), if_neg (by omega), up_n e, h3 k hk]
section
variable {d : Nat} {σ : St} {nv : Nat → Nat} {sd : Nat → Int32} {g : Nat → Nat → Int64}
theorem x_sizeOf {v : Int64} {S : St} : Er (d + 1) 41 (0, ent 41 [.long v], [], S) (.inl (some (.long (if v < 0 then -v else v))), S, 0) := by
  refine b41_0 (fun h => ?_) (fun h => ?_)
  · rw [if_neg h]; exact b41_11 b41_12
  · rw [if_pos h]; exact b41_6 b41_12
theorem x_need {S : St} {n a : Nat} (hn : gfi S 0 2 = nI n) (h60 : n ≤ 60) (ha : a < n) : Er (d + 1) 49 (0, ent 49 [.ref 0, .int (nI a)], [], S) (.inl none, S, 0) := by
  refine b49_0 (fun q => absurd q (nI_pos (by omega))) (fun _ => ?_)
  refine b49_4 k0 (fun q => absurd q (by rw [hn]; exact nI_ge ha (by omega))) (fun _ => ?_)
  exact b49_12 (fun _ => b49_28) (fun q => absurd (nI_lt (b := 60) (by omega) (by decide)) q)
theorem x_needx {S : St} {n : Nat} {x : Int32} (hn : gfi S 0 2 = nI n) (h60 : n ≤ 60) (hx : ¬ ∃ a, a < n ∧ x = nI a) : Er (d + 6) 49 (0, ent 49 [.ref 0, .int x], [], S) (.inr 0, S, 1) := by
  refine b49_0 (fun _ => b49_18) (fun h0 => ?_)
  obtain ⟨j, hj, rfl⟩ := nI_of h0
  refine b49_4 k0 (fun _ => b49_18) (fun h1 => ?_)
  rw [hn, nI_leI (by omega) hj] at h1
  exact absurd ⟨j, by omega, rfl⟩ hx
theorem x_bits {S : St} {i : Nat} {nv : Nat → Nat} (hi : NI i) (hb : Bd nv) : Er (d + 6) 43 (0, ent 43 [.ref 0, .ref i], [], KS σ nv sd g) (if bln (nv i) ≤ 256 then (.inl none, KS σ nv sd g, 0) else (.inr 3, KS σ nv sd g, 1)) := by
  have hl : bln (nv i) ≤ 640 := by rw [bln_le]; exact hb i
  refine b43_0 hi.k (m_len hi hb) (b43_4 (fun q => ?_) (fun q => ?_))
  · rw [show (256 : Int32) = nI 256 from rfl, nI_leI (by omega) (by decide)] at q
    rw [if_pos q]
    exact b43_20
  · rw [show (256 : Int32) = nI 256 from rfl, nI_leI (by omega) (by decide)] at q
    rw [if_neg q]
    exact b43_10
theorem x_read {n a r : Nat} {sg : Nat → Int} {P Q : Nat → Nat} (hD : Db n sg P Q) (hC : CD σ n sg P Q) (ha : a < n) (hr : RI r) (hb : Bd nv) :
    Er (d + 3) 50 (0, ent 50 [.ref 0, .int (nI a), .ref r], [], KS σ nv sd g) (.inl none, KS σ (up (up nv (fr r 0) (P a)) (fr r 1) (Q a)) (upi sd r (iZ (sg a))) g, 0) := by
  obtain ⟨h60, hD⟩ := hD
  obtain ⟨hP, hQ, _⟩ := hD a ha
  obtain ⟨c1, c2, c3⟩ := hC.2 a ha
  have b1 := Bd_up (i := fr r 0) hb (lt640 hP)
  have ea : gai (KS σ nv sd g) (fr 0 1) (nI a).toNatClampNeg = iZ (sg a) := by
    rw [KS_ai, nI_32 (by omega)]
    exact c1
  refine b50_0 (σ2 := KS σ (up nv (fr r 0) (P a)) (upi sd r (iZ (sg a))) g) k0 (by decide) ⟨Or.inl rfl, vp_in_nI (by show a < 60; omega) (by decide)⟩ ⟨hr.k.1, hr.k.2, rfl⟩ hr.k hr.t.k ?_ ?_
  · rw [ea, KS_ssd hr, show (16 : Int32) = nI 16 from rfl, pk_mul]
    exact m_takeWords (s := a * 16) hr.t hb hP (by omega) c2
  refine b50_25 (σ2 := KS σ (up (up nv (fr r 0) (P a)) (fr r 1) (Q a)) (upi sd r (iZ (sg a))) g) hr.k k0 hr.b.k ?_ b50_43
  rw [show (16 : Int32) = nI 16 from rfl, show (8 : Int32) = nI 8 from rfl, pk_mul, nI_add]
  exact m_takeWords (s := a * 16 + 8) hr.b b1 hQ (by omega) c3
theorem x_keep {n : Nat} (hn : gfi σ 0 2 = nI n) (h60 : n ≤ 60) (hb : Bd nv) :
    Er (d + 7) 42 (0, ent 42 [.ref 0], [], KS σ nv sd g) (if n < 60 ∧ bln (nv 12) ≤ 256 ∧ bln (nv 13) ≤ 256 then (.inl (some (.int (nI n))), KS (kept σ n (sd 7) (nv 12) (nv 13)) nv sd g, 0) else (.inr 3, KS σ nv sd g, 1)) := by
  have hK : gfi (KS σ nv sd g) 0 2 = nI n := by rw [KS_fi (by decide)]; exact hn
  by_cases h1 : n < 60
  · have pre : ∀ {q : Rs}, Er (d + 7) 42 (19, [some (.ref 0)], [], KS σ nv sd g) q → Er (d + 7) 42 (0, ent 42 [.ref 0], [], KS σ nv sd g) q := by
      intro q hq
      exact b42_0 k0 (fun _ => hq) (fun z => absurd (by rw [hK]; exact nI_lt (b := 60) h1 (by decide)) z)
    have t12 := x_bits (d := d) (S := σ) (i := 12) (σ := σ) (sd := sd) (g := g) N12 hb
    have t13 := x_bits (d := d) (S := σ) (i := 13) (σ := σ) (sd := sd) (g := g) N13 hb
    by_cases h2 : bln (nv 12) ≤ 256
    · rw [if_pos h2] at t12
      by_cases h3 : bln (nv 13) ≤ 256
      · rw [if_pos h3] at t13
        rw [if_pos ⟨h1, h2, h3⟩]
        refine pre (b42_19 k0 k7 t12 (b42_30 k0 k7 t13 ?_))
        have e7 : gfi (KS σ nv sd g) (fr 0 5) 2 = sd 7 := KS_sd (by decide)
        refine b42_41 (σ2 := KS (sar (sai σ 41 n (sd 7)) 40 (gvw (gal σ 40) (n * 16) (nv 12))) nv sd g) k0 k7 ⟨Or.inl rfl, by rw [hK]; exact vp_in_nI h1 (by decide)⟩ N12.k ?_ ?_
        · rw [hK, e7, nI_32 (by omega), f01, KS_sai]
          have e : gfi (KS (sai σ 41 n (sd 7)) nv sd g) 0 2 = nI n := by rw [KS_fi (by decide)]; exact hn
          rw [e, show (16 : Int32) = nI 16 from rfl, pk_mul]
          exact m_giveWords (i := 12) (σ := sai σ 41 n (sd 7)) N12 hb (by omega)
        · have e : gfi (KS (sar (sai σ 41 n (sd 7)) 40 (gvw (gal σ 40) (n * 16) (nv 12))) nv sd g) 0 2 = nI n := by rw [KS_fi (by decide)]; exact hn
          refine b42_78 (σ2 := KS (sar (sai σ 41 n (sd 7)) 40 (gvw (gvw (gal σ 40) (n * 16) (nv 12)) (n * 16 + 8) (nv 13))) nv sd g) k0 k7 N13.k ?_ ?_
          · rw [e, show (16 : Int32) = nI 16 from rfl, show (8 : Int32) = nI 8 from rfl, pk_mul, nI_add]
            have := m_giveWords (d := d + 5) (i := 13) (s := n * 16 + 8) (σ := sar (sai σ 41 n (sd 7)) 40 (gvw (gal σ 40) (n * 16) (nv 12))) (sd := sd) (g := g) N13 hb (by omega)
            rw [gal_sar, if_pos rfl, sar_sar] at this
            exact this
          · have e2 : gfi (KS (sar (sai σ 41 n (sd 7)) 40 (gvw (gvw (gal σ 40) (n * 16) (nv 12)) (n * 16 + 8) (nv 13))) nv sd g) 0 2 = nI n := by rw [KS_fi (by decide)]; exact hn
            have fin := b42_102 (d := d + 6) (x0 := 0) (σ := KS (sar (sai σ 41 n (sd 7)) 40 (gvw (gvw (gal σ 40) (n * 16) (nv 12)) (n * 16 + 8) (nv 13))) nv sd g) k0 k0s
            rw [e2, nI_1, KS_sfi (by decide), KS_fi (by decide), gfi_sfi, if_pos ⟨rfl, rfl⟩, nI_pred] at fin
            exact fin
      · rw [if_neg h3] at t13
        rw [if_neg (by omega)]
        exact pre (b42_19 k0 k7 t12 (b42_30x k0 k7 (by decide) t13))
    · rw [if_neg h2] at t12
      rw [if_neg (by omega)]
      exact pre (b42_19x k0 k7 (by decide) t12)
  · rw [if_neg (by omega)]
    refine b42_0 k0 (fun z => ?_) (fun _ => b42_9)
    rw [hK, show (60 : Int32) = nI 60 from rfl, nI_ltI (by omega) (by decide)] at z
    exact absurd z h1
theorem m_find {i k : Nat} (hi : NI i) (hk : NI k) (hi19 : i < 19) (hk19 : k < 19) (hb : Bd nv) (h1 : nv i < 2 ^ 600) (h2 : nv k < 2 ^ 600) :
    ∃ nv2 g2, Er (d + 5) 0 (0, ent 0 [.ref 2, .ref i, .ref k], [], KS σ nv sd g) (.inl none, KS σ nv2 sd g2, 0) ∧ nv2 19 = Nat.gcd (nv i) (nv k) ∧ Bd nv2 ∧ ∀ j, j < 19 → nv2 j = nv j := by
  obtain ⟨nv2, g2, hE, rest⟩ := n_find (d := d) (σ := SL (SD σ sd) g) hi hk hi19 hk19 hb h1 h2
  exact ⟨nv2, g2, hE, rest⟩
theorem x_reduce (hb : Bd nv) (h1 : nv 12 < 2 ^ 600) (h2 : nv 13 < 2 ^ 600) (h0 : 0 < nv 13) :
    ∃ nv2 g2, Er (d + 6) 46 (0, ent 46 [.ref 0], [], KS σ nv sd g) (.inl none, KS σ nv2 (upi sd 7 (if nv 12 = 0 then 0 else sd 7)) g2, 0) ∧ nv2 12 = nv 12 / Nat.gcd (nv 12) (nv 13) ∧ nv2 13 = nv 13 / Nat.gcd (nv 12) (nv 13) ∧ Bd nv2 := by
  have hst := r_straighten (d := d + 2) (σ := σ) (sd := sd) (g := g) hb
  by_cases hz : nv 12 = 0
  · rw [if_pos hz] at hst
    have b1 := Bd_up (i := 13) (v := 1) hb (Nat.one_lt_two_pow (by decide))
    refine ⟨up nv 13 1, g, ?_, ?_, ?_, b1⟩
    · rw [if_pos hz]
      refine b46_0 k0 k7 hst (b46_7 k0 k7 (r_isWhole (r := 7) ⟨by decide, by decide⟩ b1) (b46_14 (fun q => ?_) (fun _ => b46_17)))
      have e : (if up nv 13 1 (fr 7 1) = 1 then (1 : Int32) else 0) = 1 := if_pos (up_s _ _ _)
      rw [e] at q
      exact absurd q (by decide)
    · rw [up_n (by decide), hz, Nat.zero_div]
    · rw [up_s, hz, Nat.gcd_zero_left, Nat.div_self h0]
  · rw [if_neg hz] at hst
    have es : upi sd 7 (if nv 12 = 0 then 0 else sd 7) = sd := by
      rw [if_neg hz]
      funext j
      unfold upi
      by_cases q : j = 7
      · rw [if_pos q, q]
      · rw [if_neg q]
    rw [es]
    by_cases h1' : nv 13 = 1
    · refine ⟨nv, g, ?_, ?_, ?_, hb⟩
      · refine b46_0 k0 k7 hst (b46_7 k0 k7 (r_isWhole (r := 7) ⟨by decide, by decide⟩ hb) (b46_14 (fun q => ?_) (fun _ => b46_17)))
        have e : (if nv (fr 7 1) = 1 then (1 : Int32) else 0) = 1 := if_pos h1'
        rw [e] at q
        exact absurd q (by decide)
      · rw [h1', Nat.gcd_one_right, Nat.div_one]
      · rw [h1', Nat.gcd_one_right, Nat.div_one]
    · obtain ⟨nv2, g2, hE, hg, hb2, hfr⟩ := m_find (d := d) (σ := σ) (sd := sd) (g := g) (i := 12) (k := 13) N12 N13 (by decide) (by decide) hb h1 h2
      have e12 := hfr 12 (by decide)
      have e13 := hfr 13 (by decide)
      obtain ⟨x, hx, hE2⟩ := m_div (d := d + 2) (D := 3) (i := 12) (k := 19) (σ := σ) (sd := sd) (g := g2) D3 N12 N19 (by decide) (by decide) (by decide) (by decide) (by decide) hb2 (by rw [e12]; exact h1)
      rw [f30, f31, f32, e12, hg] at hE2
      obtain ⟨G, hG⟩ : ∃ G, G = Nat.gcd (nv 12) (nv 13) := ⟨_, rfl⟩
      rw [← hG] at hE2 hg ⊢
      have l640 : ∀ {x : Nat}, x < 2 ^ 600 → x < 2 ^ 640 := fun h => Nat.lt_trans h (Nat.pow_lt_pow_right (by decide) (by decide))
      have b3 : Bd (up (up (up nv2 16 (nv 12 / G)) 17 (nv 12 % G)) 18 x) := Bd_up (Bd_up (Bd_up hb2 (Nat.lt_of_le_of_lt (Nat.div_le_self _ _) (l640 h1))) (Nat.lt_of_le_of_lt (Nat.mod_le _ _) (l640 h1))) hx
      have hE3 := m_takeN (d := d + 4) (σ := σ) (sd := sd) (g := g2) (i := 12) (k := 16) N12 N16 b3
      have v16 : up (up (up nv2 16 (nv 12 / G)) 17 (nv 12 % G)) 18 x 16 = nv 12 / G := by rw [up_n (by decide), up_n (by decide), up_s]
      rw [v16] at hE3
      obtain ⟨nv4, hnv4⟩ : ∃ nv4, nv4 = up (up (up (up nv2 16 (nv 12 / G)) 17 (nv 12 % G)) 18 x) 12 (nv 12 / G) := ⟨_, rfl⟩
      have b4 : Bd nv4 := by rw [hnv4]; exact Bd_up b3 (Nat.lt_of_le_of_lt (Nat.div_le_self _ _) (l640 h1))
      rw [← hnv4] at hE3
      have w13 : nv4 13 = nv 13 := by rw [hnv4, up_n (by decide), up_n (by decide), up_n (by decide), up_n (by decide), e13]
      have w19 : nv4 19 = G := by rw [hnv4, up_n (by decide), up_n (by decide), up_n (by decide), up_n (by decide), hg]
      have w12 : nv4 12 = nv 12 / G := by rw [hnv4, up_s]
      obtain ⟨x2, hx2, hE4⟩ := m_div (d := d + 2) (D := 3) (i := 13) (k := 19) (σ := σ) (sd := sd) (g := g2) D3 N13 N19 (by decide) (by decide) (by decide) (by decide) (by decide) b4 (by rw [w13]; exact h2)
      rw [f30, f31, f32, w13, w19] at hE4
      have b5 : Bd (up (up (up nv4 16 (nv 13 / G)) 17 (nv 13 % G)) 18 x2) := Bd_up (Bd_up (Bd_up b4 (Nat.lt_of_le_of_lt (Nat.div_le_self _ _) (l640 h2))) (Nat.lt_of_le_of_lt (Nat.mod_le _ _) (l640 h2))) hx2
      have hE5 := m_takeN (d := d + 4) (σ := σ) (sd := sd) (g := g2) (i := 13) (k := 16) N13 N16 b5
      have v16' : up (up (up nv4 16 (nv 13 / G)) 17 (nv 13 % G)) 18 x2 16 = nv 13 / G := by rw [up_n (by decide), up_n (by decide), up_s]
      rw [v16'] at hE5
      refine ⟨up (up (up (up nv4 16 (nv 13 / G)) 17 (nv 13 % G)) 18 x2) 13 (nv 13 / G), g2, ?_, ?_, ?_, Bd_up b5 (Nat.lt_of_le_of_lt (Nat.div_le_self _ _) (l640 h2))⟩
      · refine b46_0 k0 k7 hst (b46_7 k0 k7 (r_isWhole (r := 7) ⟨by decide, by decide⟩ hb) (b46_14 (fun _ => ?_) (fun q => ?_)))
        · refine b46_18 k0 k7 k2 hE ?_
          refine b46_39 k0 k7 k2 k3 hE2 ?_
          refine b46_60 k0 k7 k3 N12.k hE3 ?_
          refine b46_77 k0 k7 k2 k3 hE4 ?_
          exact b46_98 k0 k7 k3 N13.k hE5 b46_115
        · have e : (if nv (fr 7 1) = 1 then (1 : Int32) else 0) = 0 := if_neg h1'
          rw [e] at q
          exact absurd rfl q
      · rw [up_n (by decide), up_n (by decide), up_n (by decide), up_n (by decide), w12]
      · rw [up_s]
end
