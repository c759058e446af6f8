/-! NumberModels: acts -/
def Num (s : Int) (p q : Nat) : Prop := p < Bp 8 ∧ q < Bp 8 ∧ 0 < q ∧ Nat.gcd p q = 1 ∧ ((p = 0 ∧ s = 0) ∨ (0 < p ∧ (s = 1 ∨ s = -1)))
theorem Num.s {s : Int} {p q : Nat} (h : Num s p q) : s = 0 ∨ s = 1 ∨ s = -1 := by
  obtain ⟨_, _, _, _, ⟨_, h⟩ | ⟨_, h⟩⟩ := h
  · exact Or.inl h
  · exact Or.inr h
def Rd (nv : Nat → Nat) (sd : Nat → Int32) (x y : Int) (p1 q1 p2 q2 : Nat) : Prop := Bd nv ∧ nv 8 = p1 ∧ nv 9 = q1 ∧ nv 10 = p2 ∧ nv 11 = q2 ∧ sd 5 = iZ x ∧ sd 6 = iZ y
def Mad (nv : Nat → Nat) (sd : Nat → Int32) (s : Int) (p q : Nat) : Prop := Bd nv ∧ nv 12 = p ∧ nv 13 = q ∧ sd 7 = iZ s
theorem nd8 {p : Nat} (h : p < Bp 8) : nd p ≤ 8 := nd_Bp.mpr h
theorem mul16 {p q : Nat} (hp : p < Bp 8) (hq : q < Bp 8) : p * q < Bp 16 := by
  rw [show (16 : Nat) = 8 + 8 from rfl, Bp_add]
  exact Nat.mul_lt_mul_of_lt_of_le hp (Nat.le_of_lt hq) (Bp_pos _)
theorem lt16 {x : Nat} (h : x < Bp 16) : x < 2 ^ 600 := Nat.lt_of_lt_of_le h (show 2 ^ (32 * 16) ≤ 2 ^ 600 from Nat.pow_le_pow_right (by decide) (by decide))
theorem l640 {x : Nat} (h : x < 2 ^ 600) : x < 2 ^ 640 := Nat.lt_trans h (Nat.pow_lt_pow_right (by decide) (by decide))
def cz (a b : Int) : Int := if a = b then 0 else if a < b then -1 else 1
theorem cmpI_cz (a b : Int) : cmpI a b = iZ (cz a b) := by
  unfold cmpI cz
  by_cases h : a = b
  · rw [if_pos h, if_pos h]; rfl
  · rw [if_neg h, if_neg h]
    by_cases h2 : a < b
    · rw [if_pos h2, if_pos h2]; rfl
    · rw [if_neg h2, if_neg h2]; rfl
theorem iZ0 : (0 : Int32) = iZ 0 := rfl
theorem iz_lt0 {z : Int} (h1 : -1000 ≤ z) (h2 : z ≤ 1000) : iZ z < 0 ↔ z < 0 := by rw [iZ0]; exact iZ_lt (by omega) (by omega) (by decide) (by decide)
theorem iz_ge0 {z : Int} (h1 : -1000 ≤ z) (h2 : z ≤ 1000) : 0 ≤ iZ z ↔ 0 ≤ z := by rw [iZ0]; exact iZ_le (by decide) (by decide) (by omega) (by omega)
theorem iz_eq {a b : Int} (h1 : -1000 ≤ a) (h2 : a ≤ 1000) (h3 : -1000 ≤ b) (h4 : b ≤ 1000) : iZ a = iZ b ↔ a = b := iZ_eq (by omega) (by omega) (by omega) (by omega)
theorem s3 {x y : Int} (hx : x = 0 ∨ x = 1 ∨ x = -1) (hy : y = 0 ∨ y = 1 ∨ y = -1) : x * y = 0 ∨ x * y = 1 ∨ x * y = -1 := by
  rcases hx with rfl | rfl | rfl <;> rcases hy with rfl | rfl | rfl <;> decide
def lrv (nv : Nat → Nat) (L R : Nat) : Nat → Nat := up (up nv 14 L) 15 R
section
variable {d : Nat} {σ : St} {nv : Nat → Nat} {sd : Nat → Int32} {g : Nat → Nat → Int64} {x y : Int} {p1 q1 p2 q2 : Nat}
theorem Bd_lrv {L R : Nat} (hb : Bd nv) (hL : L < Bp 16) (hR : R < Bp 16) : Bd (lrv nv L R) := Bd_up (Bd_up hb (l640 (lt16 hL))) (l640 (lt16 hR))
theorem x_L (h : Rd nv sd x y p1 q1 p2 q2) (h1 : Num x p1 q1) (h2 : Num y p2 q2) : Er (d + 2) 27 (0, ent 27 [.ref 14, .ref 8, .ref 11], [], KS σ nv sd g) (.inl none, KS σ (up nv 14 (p1 * q2)) sd g, 0) := by
  obtain ⟨hb, e8, e9, e10, e11, _, _⟩ := h
  have n1 := nd8 h1.1
  have n2 := nd8 h2.2.1
  have := m_product (d := d) (σ := σ) (sd := sd) (g := g) (i := 14) (k := 8) (l := 11) N14 N8 N11 (by decide) (by decide) hb (by rw [e8, e11]; omega)
  rw [e8, e11] at this
  exact this
theorem x_R (h : Rd nv sd x y p1 q1 p2 q2) (h1 : Num x p1 q1) (h2 : Num y p2 q2) : Er (d + 2) 27 (0, ent 27 [.ref 15, .ref 10, .ref 9], [], KS σ (up nv 14 (p1 * q2)) sd g) (.inl none, KS σ (lrv nv (p1 * q2) (p2 * q1)) sd g, 0) := by
  obtain ⟨hb, e8, e9, e10, e11, _, _⟩ := h
  have n1 := nd8 h2.1
  have n2 := nd8 h1.2.1
  have e10' : up nv 14 (p1 * q2) 10 = p2 := by rw [up_n (by decide), e10]
  have e9' : up nv 14 (p1 * q2) 9 = q1 := by rw [up_n (by decide), e9]
  have := m_product (d := d) (σ := σ) (nv := up nv 14 (p1 * q2)) (sd := sd) (g := g) (i := 15) (k := 10) (l := 9) N15 N10 N9 (by decide) (by decide) (Bd_up hb (l640 (lt16 (mul16 h1.1 h2.2.1)))) (by rw [e10', e9']; omega)
  rw [e10', e9'] at this
  exact this
theorem Rd_lrv {L R : Nat} (h : Rd nv sd x y p1 q1 p2 q2) (hL : L < Bp 16) (hR : R < Bp 16) : Rd (lrv nv L R) sd x y p1 q1 p2 q2 ∧ lrv nv L R 14 = L ∧ lrv nv L R 15 = R := by
  obtain ⟨hb, e8, e9, e10, e11, e5, e6⟩ := h
  refine ⟨⟨Bd_lrv hb hL hR, ?_, ?_, ?_, ?_, e5, e6⟩, ?_, ?_⟩
  all_goals unfold lrv
  · rw [up_n (by decide), up_n (by decide), e8]
  · rw [up_n (by decide), up_n (by decide), e9]
  · rw [up_n (by decide), up_n (by decide), e10]
  · rw [up_n (by decide), up_n (by decide), e11]
  · rw [up_n (by decide), up_s]
  · rw [up_s]
def ordZ (x y : Int) (L R : Nat) : Int := if x = y then x * cz L R else cz x y
theorem x_compareRead (h : Rd nv sd x y p1 q1 p2 q2) (h1 : Num x p1 q1) (h2 : Num y p2 q2) : ∃ nv2, Er (d + 3) 61 (0, ent 61 [.ref 0], [], KS σ nv sd g) (.inl (some (.int (iZ (ordZ x y (p1 * q2) (p2 * q1))))), KS σ nv2 sd g, 0) ∧ Rd nv2 sd x y p1 q1 p2 q2 := by
  have hx := h1.s
  have hy := h2.s
  have g5 : gfi (KS σ nv sd g) (fr 0 3) 2 = iZ x := by rw [show fr 0 3 = 5 from rfl, KS_sd (by decide)]; exact h.2.2.2.2.2.1
  have g6 : gfi (KS σ nv sd g) (fr 0 4) 2 = iZ y := by rw [show fr 0 4 = 6 from rfl, KS_sd (by decide)]; exact h.2.2.2.2.2.2
  unfold ordZ
  by_cases e : x = y
  · rw [if_pos e]
    have hL := mul16 h1.1 h2.2.1
    have hR := mul16 h2.1 h1.2.1
    obtain ⟨h3, e14, e15⟩ := Rd_lrv h hL hR
    refine ⟨_, ?_, h3⟩
    refine b61_0 k0 k5 k6 (fun _ => ?_) (fun q => absurd (by rw [g5, g6, e]) q)
    refine b61_37 k0 k5 k6 N14.k (x_L h h1 h2) ?_
    refine b61_58 k0 k6 k5 N15.k (x_R h h1 h2) ?_
    have hc := m_cmp (d := d) (σ := σ) (sd := sd) (g := g) (i := 14) (k := 15) N14 N15 h3.1
    rw [e14, e15, cmpI_cz] at hc
    refine b61_79 k0 k5 N14.k hc ?_
    have g5' : gfi (KS σ (lrv nv (p1 * q2) (p2 * q1)) sd g) (fr 0 3) 2 = iZ x := by rw [show fr 0 3 = 5 from rfl, KS_sd (by decide)]; exact h.2.2.2.2.2.1
    rw [g5', ← iZ_mul]
    exact b61_97
  · rw [if_neg e]
    refine ⟨nv, ?_, h⟩
    refine b61_0 k0 k5 k6 (fun q => ?_) (fun _ => ?_)
    · rw [g5, g6, iz_eq (by omega) (by omega) (by omega) (by omega)] at q
      exact absurd q e
    · refine b61_17 (σ2 := KS σ nv sd g) (r := iZ (cz x y)) k0 k5 k6 ?_ b61_36
      rw [g5, g6, iZ_l (by omega) (by omega), iZ_l (by omega) (by omega)]
      have := c_compare (d := d + 1) (x := lZ x) (y := lZ y) (σ := KS σ nv sd g)
      rw [lZ_t (by omega) (by omega), lZ_t (by omega) (by omega), cmpI_cz] at this
      exact this
def sumS (x y : Int) (L R : Nat) : Int := if R ≤ L then x else y
def sumT (x y : Int) (L R : Nat) : Nat := if x * y < 0 then (if R ≤ L then L - R else R - L) else L + R
theorem x_add {yy : Int} (h : Rd nv sd x y p1 q1 p2 q2) (h1 : Num x p1 q1) (h2 : Num y p2 q2) (hyy : yy = y ∨ yy = -y) : ∃ nv2 sd2, Er (d + 3) 54 (0, ent 54 [.ref 0, .int (iZ yy)], [], KS σ nv sd g) (.inl none, KS σ nv2 sd2 g, 0) ∧ Mad nv2 sd2 (sumS x yy (p1 * q2) (p2 * q1)) (sumT x yy (p1 * q2) (p2 * q1)) (q1 * q2) := by
  have hx := h1.s
  have hy := h2.s
  have hy3 : yy = 0 ∨ yy = 1 ∨ yy = -1 := by omega
  have hL := mul16 h1.1 h2.2.1
  have hR := mul16 h2.1 h1.2.1
  have hQ := mul16 h1.2.1 h2.2.1
  obtain ⟨L, eL⟩ : ∃ L, L = p1 * q2 := ⟨_, rfl⟩
  obtain ⟨R, eR⟩ : ∃ R, R = p2 * q1 := ⟨_, rfl⟩
  have hL2 : L < Bp 16 := by rw [eL]; exact hL
  have hR2 : R < Bp 16 := by rw [eR]; exact hR
  have b16 : Bp 16 < 2 ^ 600 := Nat.pow_lt_pow_right (by decide) (by decide)
  obtain ⟨h3, e14, e15⟩ := Rd_lrv h hL hR
  have hl := x_L (d := d) (σ := σ) (g := g) h h1 h2
  have hr := x_R (d := d) (σ := σ) (g := g) h h1 h2
  rw [← eL, ← eR] at h3 e14 e15 hr ⊢
  rw [← eL] at hl
  obtain ⟨nv1, hnv1⟩ : ∃ nv1, nv1 = lrv nv L R := ⟨_, rfl⟩
  rw [← hnv1] at h3 e14 e15 hr
  obtain ⟨hb, e8, e9, e10, e11, e5, e6⟩ := h3
  have n1 := nd8 h1.2.1
  have n2 := nd8 h2.2.1
  have hpq := m_product (d := d) (σ := σ) (nv := nv1) (sd := sd) (g := g) (i := 13) (k := 9) (l := 11) N13 N9 N11 (by decide) (by decide) hb (by rw [e9, e11]; omega)
  rw [e9, e11] at hpq
  have b2 := Bd_up (i := 13) hb (l640 (lt16 hQ))
  have hcm := m_cmp (d := d) (σ := σ) (nv := up nv1 13 (q1 * q2)) (sd := sd) (g := g) (i := 14) (k := 15) N14 N15 b2
  rw [up_n (by decide), up_n (by decide), e14, e15, cmpI_cz] at hcm
  have start : ∀ {q : Rs}, (R ≤ L → Er (d + 3) 54 (80, [some (.ref 0), some (.int (iZ yy)), none, none], [], KS σ (up nv1 13 (q1 * q2)) sd g) q) → (¬ R ≤ L → Er (d + 3) 54 (84, [some (.ref 0), some (.int (iZ yy)), none, none], [], KS σ (up nv1 13 (q1 * q2)) sd g) q) → Er (d + 3) 54 (0, ent 54 [.ref 0, .int (iZ yy)], [], KS σ nv sd g) q := by
    intro q ha hbq
    refine b54_0 k0 k5 k6 N14.k hl (b54_21 k0 k6 k5 N15.k hr (b54_42 k0 k7 k5 k6 N13.k hpq (b54_66 k0 N14.k hcm ?_)))
    have hcz : cz (L : Int) (R : Int) < 0 ↔ ¬ R ≤ L := by
      unfold cz
      by_cases a1 : (L : Int) = R
      · rw [if_pos a1]; omega
      · rw [if_neg a1]
        by_cases a2 : (L : Int) < R
        · rw [if_pos a2]; omega
        · rw [if_neg a2]; omega
    have hr3 : -1000 ≤ cz (L : Int) (R : Int) ∧ cz (L : Int) (R : Int) ≤ 1000 := by
      unfold cz
      split
      · omega
      · split <;> omega
    refine b54_77 (fun z => ?_) (fun z => ?_)
    · rw [iz_lt0 hr3.1 hr3.2, hcz] at z
      exact hbq z
    · rw [iz_lt0 hr3.1 hr3.2, hcz] at z
      exact ha (by omega)
  have hxy := s3 hx hy3
  -- the end: with the greater one in made.top
  have fin : ∀ (o : Nat) (M O : Nat) (s : Int) (x2 : Int32), NI o → o = 14 ∨ o = 15 → nv1 o = O → O ≤ M → M < 2 ^ 600 → Er (d + 3) 54 (148, [some (.ref 0), some (.int (iZ yy)), some (.int x2), none], [.ref o], KS σ (up (up nv1 13 (q1 * q2)) 12 M) (upi sd 7 (iZ s)) g) (.inl none, KS σ (up (up nv1 13 (q1 * q2)) 12 (if x * yy < 0 then M - O else M + O)) (upi sd 7 (iZ s)) g, 0) := by
    intro o M O s x2 ho ho2 hO hOM hM
    have b3 := Bd_up (i := 12) b2 (l640 hM)
    have eo : up (up nv1 13 (q1 * q2)) 12 M o = O := by
      rw [up_n (by omega), up_n (by omega), hO]
    have g5 : gfi (KS σ (up (up nv1 13 (q1 * q2)) 12 M) (upi sd 7 (iZ s)) g) (fr 0 3) 2 = iZ x := by
      rw [show fr 0 3 = 5 from rfl, KS_sd (by decide), upi_n (by decide), e5]
    refine b54_148 k0 k5 (fun z => ?_) (fun z => ?_)
    · rw [g5, iZ_mul, iz_ge0 (by omega) (by omega)] at z
      rw [if_neg (by omega)]
      have := m_add (d := d) (σ := σ) (sd := upi sd 7 (iZ s)) (g := g) (i := 12) (k := o) N12 ho (by omega) b3 (by rw [up_s, eo]; have := l640 hM; exact Nat.lt_of_lt_of_le (by omega : M + O < 2 ^ 600 + 2 ^ 600) (by rw [← Nat.two_mul, ← Nat.pow_succ']; exact Nat.pow_le_pow_right (by decide) (by decide)))
      rw [up_s, eo, up_up] at this
      exact b54_175 k0 k7 N12.k this b54_186
    · rw [g5, iZ_mul, iz_ge0 (by omega) (by omega)] at z
      rw [if_pos (by omega)]
      have := m_sub (d := d) (σ := σ) (sd := upi sd 7 (iZ s)) (g := g) (i := 12) (k := o) N12 ho (by omega) b3 (by rw [up_s, eo]; exact hOM)
      rw [up_s, eo, up_up] at this
      exact b54_161 k0 k7 N12.k this (b54_172 b54_186)
  unfold sumS sumT
  by_cases hRL : R ≤ L
  · rw [if_pos hRL, if_pos hRL]
    refine ⟨up (up nv1 13 (q1 * q2)) 12 (if x * yy < 0 then L - R else L + R), upi sd 7 (iZ x), start (fun _ => ?_) (fun z => absurd hRL z), ?_⟩
    · refine b54_80 (b54_85 k0 (fun z => absurd z (by decide)) (fun _ => ?_))
      refine b54_94 k0 k5 ?_
      have g5 : gfi (KS σ (up nv1 13 (q1 * q2)) sd g) (fr 0 3) 2 = iZ x := by
        rw [show fr 0 3 = 5 from rfl, KS_sd (by decide), e5]
      rw [g5]
      refine b54_105 k7s k0 k7 (fun z => absurd z (by decide)) (fun _ => ?_)
      rw [show fr 0 5 = 7 from rfl, KS_ssd (by decide)]
      refine b54_119 k0 ?_
      have hm := m_takeN (d := d + 1) (σ := σ) (nv := up nv1 13 (q1 * q2)) (sd := upi sd 7 (iZ x)) (g := g) (i := 12) (k := 14) N12 N14 b2
      rw [up_n (by decide), e14] at hm
      refine b54_130 N12.k hm ?_
      refine b54_133 (fun z => absurd z (by decide)) (fun _ => b54_137 k0 ?_)
      exact fin 15 L R x 1 N15 (Or.inr rfl) e15 hRL (by omega)
    · refine ⟨Bd_up b2 ?_, by rw [up_s], by rw [up_n (by decide), up_s], upi_s _ _ _⟩
      split
      · exact l640 (by omega)
      · exact Nat.lt_of_lt_of_le (by omega : L + R < 2 ^ 600 + 2 ^ 600) (by rw [← Nat.two_mul, ← Nat.pow_succ']; exact Nat.pow_le_pow_right (by decide) (by decide))
  · rw [if_neg hRL, if_neg hRL]
    have hcomm : (if x * yy < 0 then R - L else L + R) = if x * yy < 0 then R - L else R + L := by rw [Nat.add_comm]
    rw [hcomm]
    refine ⟨up (up nv1 13 (q1 * q2)) 12 (if x * yy < 0 then R - L else R + L), upi sd 7 (iZ yy), start (fun z => absurd z hRL) (fun _ => ?_), ?_⟩
    · refine b54_84 (b54_85 k0 (fun _ => ?_) (fun z => absurd rfl z))
      refine b54_104 ?_
      refine b54_105 k7s k0 k7 (fun _ => ?_) (fun z => absurd rfl z)
      rw [show fr 0 5 = 7 from rfl, KS_ssd (by decide)]
      refine b54_126 k0 ?_
      have hm := m_takeN (d := d + 1) (σ := σ) (nv := up nv1 13 (q1 * q2)) (sd := upi sd 7 (iZ yy)) (g := g) (i := 12) (k := 15) N12 N15 b2
      rw [up_n (by decide), e15] at hm
      refine b54_130 N12.k hm ?_
      refine b54_133 (fun _ => b54_144 k0 ?_) (fun z => absurd rfl z)
      exact fin 14 R L yy 0 N14 (Or.inl rfl) e14 (by omega) (by omega)
    · refine ⟨Bd_up b2 ?_, by rw [up_s], by rw [up_n (by decide), up_s], upi_s _ _ _⟩
      split
      · exact l640 (by omega)
      · exact Nat.lt_of_lt_of_le (by omega : R + L < 2 ^ 600 + 2 ^ 600) (by rw [← Nat.two_mul, ← Nat.pow_succ']; exact Nat.pow_le_pow_right (by decide) (by decide))
theorem x_multiply {a b u v : Nat} (h : Rd nv sd x y p1 q1 p2 q2) (h1 : Num x p1 q1) (h2 : Num y p2 q2) (hab : (a = 10 ∧ b = 11 ∧ u = p2 ∧ v = q2) ∨ (a = 11 ∧ b = 10 ∧ u = q2 ∧ v = p2)) : ∃ nv2 sd2, Er (d + 3) 55 (0, ent 55 [.ref 0, .ref a, .ref b], [], KS σ nv sd g) (.inl none, KS σ nv2 sd2 g, 0) ∧ Mad nv2 sd2 (x * y) (p1 * u) (q1 * v) := by
  obtain ⟨hb, e8, e9, e10, e11, e5, e6⟩ := h
  have hu : u < Bp 8 := by rcases hab with ⟨_, _, rfl, _⟩ | ⟨_, _, rfl, _⟩; exact h2.1; exact h2.2.1
  have hv : v < Bp 8 := by rcases hab with ⟨_, _, _, rfl⟩ | ⟨_, _, _, rfl⟩; exact h2.2.1; exact h2.1
  have ha : NI a := by rcases hab with ⟨rfl, _⟩ | ⟨rfl, _⟩; exact N10; exact N11
  have hbN : NI b := by rcases hab with ⟨_, rfl, _⟩ | ⟨_, rfl, _⟩; exact N11; exact N10
  have ea : nv a = u := by rcases hab with ⟨rfl, _, rfl, _⟩ | ⟨rfl, _, rfl, _⟩; exact e10; exact e11
  have eb : nv b = v := by rcases hab with ⟨_, rfl, _, rfl⟩ | ⟨_, rfl, _, rfl⟩; exact e11; exact e10
  have hne : a ≠ 12 ∧ a ≠ 13 ∧ b ≠ 12 ∧ b ≠ 13 := by omega
  have n1 := nd8 h1.1
  have n2 := nd8 hu
  have n3 := nd8 h1.2.1
  have n4 := nd8 hv
  have b1 := Bd_up (i := 12) hb (l640 (lt16 (mul16 h1.1 hu)))
  have m1 := m_product (d := d) (σ := σ) (nv := nv) (sd := upi sd 7 (iZ (x * y))) (g := g) (i := 12) (k := 8) (l := a) N12 N8 ha (by decide) hne.1 hb (by rw [e8, ea]; omega)
  rw [e8, ea] at m1
  have e9' : up nv 12 (p1 * u) 9 = q1 := by rw [up_n (by decide), e9]
  have eb' : up nv 12 (p1 * u) b = v := by rw [up_n hne.2.2.1, eb]
  have m2 := m_product (d := d) (σ := σ) (nv := up nv 12 (p1 * u)) (sd := upi sd 7 (iZ (x * y))) (g := g) (i := 13) (k := 9) (l := b) N13 N9 hbN (by decide) hne.2.2.2 b1 (by rw [e9', eb']; omega)
  rw [e9', eb'] at m2
  refine ⟨up (up nv 12 (p1 * u)) 13 (q1 * v), upi sd 7 (iZ (x * y)), ?_, Bd_up b1 (l640 (lt16 (mul16 h1.2.1 hv))), by rw [up_n (by decide), up_s], up_s _ _ _, upi_s _ _ _⟩
  refine b55_0 (σ2 := KS σ (up nv 12 (p1 * u)) (upi sd 7 (iZ (x * y))) g) k0 k5 k6 k7s k7 N12.k ?_ (b55_40 k0 k7 k5 N13.k m2 b55_58)
  rw [show fr 0 3 = 5 from rfl, show fr 0 4 = 6 from rfl, show fr 0 5 = 7 from rfl, KS_sd (by decide), KS_sd (by decide), KS_ssd (by decide), e5, e6, iZ_mul]
  exact m1
theorem x_divide (h : Rd nv sd x y p1 q1 p2 q2) (h1 : Num x p1 q1) (h2 : Num y p2 q2) : ∃ nv2, Er (d + 4) 56 (0, ent 56 [.ref 0], [], KS σ nv sd g) (.inl none, KS σ nv2 sd g, 0) ∧ Rd nv2 sd x y p1 q1 p2 q2 ∧ nv2 15 = p2 * q1 ∧ nv2 16 = p1 * q2 / (p2 * q1) ∧ nv2 17 = p1 * q2 % (p2 * q1) := by
  have hL := mul16 h1.1 h2.2.1
  have hR := mul16 h2.1 h1.2.1
  obtain ⟨h3, e14, e15⟩ := Rd_lrv h hL hR
  have hl := x_L (d := d + 1) (σ := σ) (g := g) h h1 h2
  have hr := x_R (d := d + 1) (σ := σ) (g := g) h h1 h2
  obtain ⟨nv1, hnv1⟩ : ∃ nv1, nv1 = lrv nv (p1 * q2) (p2 * q1) := ⟨_, rfl⟩
  rw [← hnv1] at h3 e14 e15 hr
  obtain ⟨z, hz, hE⟩ := m_div (d := d) (D := 3) (σ := σ) (nv := nv1) (sd := sd) (g := g) (i := 14) (k := 15) D3 N14 N15 (by decide) (by decide) (by decide) (by decide) (by decide) h3.1 (by rw [e14]; exact lt16 hL)
  rw [f30, f31, f32, e14, e15] at hE
  obtain ⟨hb, e8, e9, e10, e11, e5, e6⟩ := h3
  refine ⟨_, b56_0 k0 k5 k6 N14.k hl (b56_21 k0 k6 k5 N15.k hr (b56_42 k0 k3 hE b56_57)), ⟨Bd_up (Bd_up (Bd_up hb (Nat.lt_of_le_of_lt (Nat.div_le_self _ _) (l640 (lt16 hL)))) (Nat.lt_of_le_of_lt (Nat.mod_le _ _) (l640 (lt16 hL)))) hz, ?_, ?_, ?_, ?_, e5, e6⟩, ?_, ?_, ?_⟩
  · rw [up_n (by decide), up_n (by decide), up_n (by decide), e8]
  · rw [up_n (by decide), up_n (by decide), up_n (by decide), e9]
  · rw [up_n (by decide), up_n (by decide), up_n (by decide), e10]
  · rw [up_n (by decide), up_n (by decide), up_n (by decide), e11]
  · rw [up_n (by decide), up_n (by decide), up_n (by decide), e15]
  · rw [up_n (by decide), up_n (by decide), up_s]
  · rw [up_n (by decide), up_s]
end
