/-! NumberModels: what an act makes -/
def mk3 (t : Int × Nat × Nat) : Int × Nat × Nat := (if t.2.1 = 0 then 0 else t.1, t.2.1 / Nat.gcd t.2.1 t.2.2, t.2.2 / Nat.gcd t.2.1 t.2.2)
def sumM (x y : Int) (L R Q : Nat) : Int × Nat × Nat := if x = 0 ∨ y = 0 ∨ x = y then (if x = 0 then y else x, L + R, Q) else if R ≤ L then (x, L - R, Q) else (y, R - L, Q)
def actM (k : Nat) (x : Int) (p1 q1 : Nat) (y : Int) (p2 q2 : Nat) : Int × Nat × Nat :=
  match k with
  | 0 => sumM x y (p1 * q2) (p2 * q1) (q1 * q2)
  | 1 => sumM x (-y) (p1 * q2) (p2 * q1) (q1 * q2)
  | 2 => (x * y, p1 * p2, q1 * q2)
  | 3 => (x * y, p1 * q2, p2 * q1)
  | 4 => (x * y, quoT true (x * y) (p1 * q2 / (p2 * q1)) (p1 * q2 % (p2 * q1)), 1)
  | 5 => if x * y < 0 ∧ p1 * q2 % (p2 * q1) ≠ 0 then (y, p2 * q1 - p1 * q2 % (p2 * q1), q1 * q2) else (x, p1 * q2 % (p2 * q1), q1 * q2)
  | 6 => (x * y, p1 * q2 / (p2 * q1), 1)
  | 7 => (x, p1 * q2 % (p2 * q1), q1 * q2)
  | 8 => (1, Nat.gcd p1 p2, 1)
  | 9 => (if x < 0 ∧ p2 % 2 = 1 then -1 else 1, (if y < 0 then q1 else p1) ^ p2, (if y < 0 then p1 else q1) ^ p2)
  | 10 => (x, if 0 < y * p2 then p1 * 2 ^ p2 else p1, if 0 < y * p2 then q1 else q1 * 2 ^ p2)
  | 11 => if ordZ x y (p1 * q2) (p2 * q1) ≤ 0 then (x, p1, q1) else (y, p2, q2)
  | _ => if 0 < ordZ x y (p1 * q2) (p2 * q1) then (x, p1, q1) else (y, p2, q2)
theorem mk3_num {s : Int} {p q : Nat} (h : Num s p q) : mk3 (s, p, q) = (s, p, q) := by
  obtain ⟨_, _, h0, hg, hs⟩ := h
  unfold mk3
  simp only
  rw [hg, Nat.div_one, Nat.div_one]
  rcases hs with ⟨a, b⟩ | ⟨a, b⟩
  · rw [if_pos a, b]
  · rw [if_neg (by omega)]
theorem mul_zero_iff {p q : Nat} (h : 0 < q) : p * q = 0 ↔ p = 0 := by
  rw [Nat.mul_eq_zero]
  omega
theorem sum_eq {x y : Int} {p1 q1 p2 q2 : Nat} (h1 : Num x p1 q1) (h2 : Num y p2 q2) : mk3 (sumS x y (p1 * q2) (p2 * q1), sumT x y (p1 * q2) (p2 * q1), q1 * q2) = mk3 (sumM x y (p1 * q2) (p2 * q1) (q1 * q2)) := by
  have hx := h1.s
  have hy := h2.s
  obtain ⟨_, _, q10, _, hs1⟩ := h1
  obtain ⟨_, _, q20, _, hs2⟩ := h2
  have hL := mul_zero_iff (p := p1) q20
  have hR := mul_zero_iff (p := p2) q10
  obtain ⟨L, eL⟩ : ∃ L, L = p1 * q2 := ⟨_, rfl⟩
  obtain ⟨R, eR⟩ : ∃ R, R = p2 * q1 := ⟨_, rfl⟩
  rw [← eL] at hL ⊢
  rw [← eR] at hR ⊢
  have hx0 : x = 0 ↔ L = 0 := by rw [hL]; omega
  have hy0 : y = 0 ↔ R = 0 := by rw [hR]; omega
  unfold sumM sumT sumS
  by_cases c : x = 0 ∨ y = 0 ∨ x = y
  · rw [if_pos c]
    have nn : ¬ x * y < 0 := by
      rcases hx with rfl | rfl | rfl <;> rcases hy with rfl | rfl | rfl <;> simp_all
    rw [if_neg nn]
    by_cases z : L + R = 0
    · unfold mk3
      simp only
      rw [if_pos z, if_pos z]
    · have e : (if R ≤ L then x else y) = if x = 0 then y else x := by
        by_cases a : x = 0
        · rw [if_pos a]
          by_cases b : R ≤ L
          · rw [if_pos b]; omega
          · rw [if_neg b]
        · rw [if_neg a]
          by_cases b : R ≤ L
          · rw [if_pos b]
          · rw [if_neg b]; omega
      rw [e]
  · rw [if_neg c]
    have nn : x * y < 0 := by
      rcases hx with rfl | rfl | rfl <;> rcases hy with rfl | rfl | rfl <;> simp_all
    rw [if_pos nn]
    by_cases b : R ≤ L
    · rw [if_pos b, if_pos b, if_pos b]
    · rw [if_neg b, if_neg b, if_neg b]
theorem Num.neg {s : Int} {p q : Nat} (h : Num s p q) : Num (-s) p q := by
  obtain ⟨a, b, c, e, f⟩ := h
  exact ⟨a, b, c, e, by omega⟩
/-- of equal ones either is the same -/
theorem ord_eq {x y : Int} {p1 q1 p2 q2 : Nat} (h1 : Num x p1 q1) (h2 : Num y p2 q2) (h : ordZ x y (p1 * q2) (p2 * q1) = 0) : x = y ∧ p1 = p2 ∧ q1 = q2 := by
  unfold ordZ at h
  by_cases e : x = y
  · rw [if_pos e] at h
    obtain ⟨_, _, q10, g1, hs1⟩ := h1
    obtain ⟨_, _, q20, g2, hs2⟩ := h2
    rcases hs1 with ⟨a, b⟩ | ⟨a, b⟩
    · have p20 : p2 = 0 := by omega
      subst a p20
      rw [Nat.gcd_zero_left] at g1 g2
      exact ⟨e, rfl, by omega⟩
    · have c : cz ((p1 * q2 : Nat) : Int) ((p2 * q1 : Nat) : Int) = 0 := by
        rcases b with rfl | rfl <;> omega
      have LR : p1 * q2 = p2 * q1 := by
        unfold cz at c
        by_cases w : ((p1 * q2 : Nat) : Int) = ((p2 * q1 : Nat) : Int)
        · exact_mod_cast w
        · rw [if_neg w] at c
          split at c <;> omega
      have d1 : p1 ∣ p2 := by
        have : p1 ∣ p2 * q1 := ⟨q2, LR.symm⟩
        exact Nat.Coprime.dvd_of_dvd_mul_right g1 this
      have d2 : p2 ∣ p1 := by
        have : p2 ∣ p1 * q2 := ⟨q1, LR⟩
        exact Nat.Coprime.dvd_of_dvd_mul_right g2 this
      have pe := Nat.dvd_antisymm d1 d2
      subst pe
      exact ⟨e, rfl, (Nat.eq_of_mul_eq_mul_left a LR).symm⟩
  · rw [if_neg e] at h
    unfold cz at h
    rw [if_neg e] at h
    split at h <;> omega
/-- twos moved over -/
theorem two_eq {s : Int} {gr sh n t m : Nat} (hg : Nat.gcd gr sh = 1) (hsh : sh = 2 ^ t * (2 * m + 1)) : Nat.gcd (gr * 2 ^ n) sh = 2 ^ min n t ∧ gr * 2 ^ n / 2 ^ min n t = gr * 2 ^ (n - min n t) := by
  have e1 : 2 ^ n = 2 ^ (n - min n t) * 2 ^ min n t := by rw [← Nat.pow_add]; congr 1; omega
  have e2 : sh = 2 ^ (t - min n t) * (2 * m + 1) * 2 ^ min n t := by
    rw [hsh]
    have : 2 ^ t = 2 ^ (t - min n t) * 2 ^ min n t := by rw [← Nat.pow_add]; congr 1; omega
    rw [this]
    generalize 2 ^ (t - min n t) = a
    generalize 2 ^ min n t = b
    ac_rfl
  have hc : Nat.gcd (gr * 2 ^ (n - min n t)) (2 ^ (t - min n t) * (2 * m + 1)) = 1 := by
    have hd : 2 ^ (t - min n t) * (2 * m + 1) ∣ sh := ⟨2 ^ min n t, e2⟩
    have c1 : Nat.Coprime gr (2 ^ (t - min n t) * (2 * m + 1)) := Nat.Coprime.coprime_dvd_right hd hg
    rcases Nat.le_total n t with h | h
    · rw [show n - min n t = 0 by omega, Nat.pow_zero, Nat.mul_one]
      exact c1
    · have z : t - min n t = 0 := by omega
      rw [z, Nat.pow_zero, Nat.one_mul] at c1 ⊢
      refine Nat.Coprime.mul_left c1 ?_
      refine Nat.Coprime.pow_left _ ?_
      show Nat.gcd 2 (2 * m + 1) = 1
      rw [Nat.gcd_rec, show (2 * m + 1) % 2 = 1 by omega]
      decide
  refine ⟨?_, ?_⟩
  · conv => lhs; rw [e1, e2]
    rw [← Nat.mul_assoc, Nat.gcd_mul_right, hc, Nat.one_mul]
  · rw [e1, ← Nat.mul_assoc, Nat.mul_div_cancel _ (Nat.two_pow_pos _)]
section
variable {d : Nat} {σ : St} {nv : Nat → Nat} {sd : Nat → Int32} {g : Nat → Nat → Int64} {x y : Int} {p1 q1 p2 q2 : Nat}
def Fit (k : Nat) (q1 p2 q2 : Nat) : Prop := k ≤ 12 ∧ (k = 8 → q1 = 1 ∧ q2 = 1) ∧ (k = 9 → q2 = 1 ∧ p2 ≤ 300) ∧ (k = 10 → q2 = 1 ∧ p2 ≤ 600)
theorem x_fitb {x1 : Int32} (h : Rd nv sd x y p1 q1 p2 q2) : ∃ b : Int32, (b = 0 ∨ b = 1) ∧ (b = 1 ↔ ∃ k, x1 = nI k ∧ k < 2 ^ 31 ∧ Fit k q1 p2 q2) ∧ ∀ {q : Rs}, Er (d + 4) 51 (88, [some (.ref 0), some (.int x1), some (.int b)], [], KS σ nv sd g) q → Er (d + 4) 51 (0, ent 51 [.ref 0, .int x1], [], KS σ nv sd g) q := by
  obtain ⟨hb, e8, e9, e10, e11, e5, e6⟩ := h
  have w5 := r_isWhole (d := d + 1) (σ := σ) (sd := sd) (g := g) (r := 5) ⟨by decide, by decide⟩ hb
  have w6 := r_isWhole (d := d + 1) (σ := σ) (sd := sd) (g := g) (r := 6) ⟨by decide, by decide⟩ hb
  rw [f51, e9] at w5
  rw [f61, e11] at w6
  have i3 := r_isWithin (d := d) (σ := σ) (sd := sd) (g := g) (m := 300) (by decide) hb
  have i6 := r_isWithin (d := d) (σ := σ) (sd := sd) (g := g) (m := 600) (by decide) hb
  rw [e10, e11] at i3 i6
  by_cases h8 : x1 = 8
  · subst h8
    have pre : ∀ {q : Rs}, Er (d + 4) 51 (22, [some (.ref 0), some (.int 8), some (.int 1)], [], KS σ nv sd g) q → Er (d + 4) 51 (0, ent 51 [.ref 0, .int 8], [], KS σ nv sd g) q := by
      intro q hq
      exact b51_0 (fun z => absurd z (by decide)) (fun _ => b51_4 (fun z => absurd z (by decide)) (fun _ => b51_10 (b51_15 (fun z => absurd rfl z) (fun _ => hq))))
    have fit8 : ∀ k, (8 : Int32) = nI k → k < 2 ^ 31 → k = 8 := fun k hk h31 => ((nI_eq (a := 8) (by decide) h31).mp hk).symm
    by_cases a1 : q1 = 1
    · rw [if_pos a1] at w5
      by_cases a2 : q2 = 1
      · rw [if_pos a2] at w6
        refine ⟨1, Or.inr rfl, ⟨fun _ => ⟨8, rfl, by decide, by decide, fun _ => ⟨a1, a2⟩, fun z => absurd z (by decide), fun z => absurd z (by decide)⟩, fun _ => rfl⟩, fun hq => pre ?_⟩
        exact b51_22 k0 k5 w5 (b51_29 (fun z => absurd z (by decide)) (fun _ => b51_32 k0 k6 w6 (b51_39 (fun z => absurd z (by decide)) (fun _ => b51_42 (b51_47 hq)))))
      · rw [if_neg a2] at w6
        refine ⟨0, Or.inl rfl, ⟨fun z => absurd z (by decide), fun ⟨k, hk, h31, hF⟩ => absurd (hF.2.1 (fit8 k hk h31)).2 a2⟩, fun hq => pre ?_⟩
        exact b51_22 k0 k5 w5 (b51_29 (fun z => absurd z (by decide)) (fun _ => b51_32 k0 k6 w6 (b51_39 (fun _ => b51_46 (b51_47 hq)) (fun z => absurd rfl z))))
    · rw [if_neg a1] at w5
      refine ⟨0, Or.inl rfl, ⟨fun z => absurd z (by decide), fun ⟨k, hk, h31, hF⟩ => absurd (hF.2.1 (fit8 k hk h31)).1 a1⟩, fun hq => pre ?_⟩
      exact b51_22 k0 k5 w5 (b51_29 (fun _ => b51_46 (b51_47 hq)) (fun z => absurd rfl z))
  by_cases h9 : x1 = 9
  · subst h9
    have fit9 : ∀ k, (9 : Int32) = nI k → k < 2 ^ 31 → k = 9 := fun k hk h31 => ((nI_eq (a := 9) (by decide) h31).mp hk).symm
    refine ⟨if q2 = 1 ∧ p2 ≤ 300 then 1 else 0, ?_, ?_, fun hq => ?_⟩
    · by_cases c : q2 = 1 ∧ p2 ≤ 300
      · rw [if_pos c]; exact Or.inr rfl
      · rw [if_neg c]; exact Or.inl rfl
    · by_cases c : q2 = 1 ∧ p2 ≤ 300
      · rw [if_pos c]
        exact ⟨fun _ => ⟨9, rfl, by decide, by decide, fun z => absurd z (by decide), fun _ => c, fun z => absurd z (by decide)⟩, fun _ => rfl⟩
      · rw [if_neg c]
        exact ⟨fun z => absurd z (by decide), fun ⟨k, hk, h31, hF⟩ => absurd (hF.2.2.1 (fit9 k hk h31)) c⟩
    · exact b51_0 (fun z => absurd z (by decide)) (fun _ => b51_4 (fun z => absurd z (by decide)) (fun _ => b51_10 (b51_15 (fun _ => b51_51 (fun z => absurd rfl z) (fun _ => b51_57 k0 k6 i3 (b51_67 hq))) (fun z => absurd z (by decide)))))
  by_cases h10 : x1 = 10
  · subst h10
    have fit10 : ∀ k, (10 : Int32) = nI k → k < 2 ^ 31 → k = 10 := fun k hk h31 => ((nI_eq (a := 10) (by decide) h31).mp hk).symm
    refine ⟨if q2 = 1 ∧ p2 ≤ 600 then 1 else 0, ?_, ?_, fun hq => ?_⟩
    · by_cases c : q2 = 1 ∧ p2 ≤ 600
      · rw [if_pos c]; exact Or.inr rfl
      · rw [if_neg c]; exact Or.inl rfl
    · by_cases c : q2 = 1 ∧ p2 ≤ 600
      · rw [if_pos c]
        exact ⟨fun _ => ⟨10, rfl, by decide, by decide, fun z => absurd z (by decide), fun z => absurd z (by decide), fun _ => c⟩, fun _ => rfl⟩
      · rw [if_neg c]
        exact ⟨fun z => absurd z (by decide), fun ⟨k, hk, h31, hF⟩ => absurd (hF.2.2.2 (fit10 k hk h31)) c⟩
    · exact b51_0 (fun z => absurd z (by decide)) (fun _ => b51_4 (fun z => absurd z (by decide)) (fun _ => b51_10 (b51_15 (fun _ => b51_51 (fun _ => b51_71 (fun z => absurd rfl z) (fun _ => b51_77 k0 k6 i6 (b51_87 hq))) (fun z => absurd z (by decide))) (fun z => absurd z (by decide)))))
  have post : ∀ {q : Rs} {b : Int32}, Er (d + 4) 51 (88, [some (.ref 0), some (.int x1), some (.int b)], [], KS σ nv sd g) q → Er (d + 4) 51 (15, [some (.ref 0), some (.int x1), none], [.int b], KS σ nv sd g) q := by
    intro q b hq
    exact b51_15 (fun _ => b51_51 (fun _ => b51_71 (fun _ => hq) (fun z => absurd z h10)) (fun z => absurd z h9)) (fun z => absurd z h8)
  by_cases hlo : x1 < 0
  · refine ⟨0, Or.inl rfl, ⟨fun z => absurd z (by decide), fun ⟨k, hk, h31, hF⟩ => ?_⟩, fun hq => b51_0 (fun _ => b51_14 (post hq)) (fun z => absurd hlo z)⟩
    rw [hk] at hlo
    exact absurd hlo (nI_pos h31)
  · obtain ⟨k, hk31, rfl⟩ := nI_of hlo
    by_cases hhi : 12 < k
    · refine ⟨0, Or.inl rfl, ⟨fun z => absurd z (by decide), fun ⟨k2, hk2, h31, hF⟩ => ?_⟩, fun hq => b51_0 (fun z => absurd z hlo) (fun _ => b51_4 (fun _ => b51_14 (post hq)) (fun z => absurd (nI_lt (a := 12) hhi hk31) z))⟩
      have := (nI_eq hk31 h31).mp hk2
      have := hF.1
      omega
    · refine ⟨1, Or.inr rfl, ⟨fun _ => ⟨k, rfl, hk31, by omega, fun z => absurd (by rw [z]; rfl) h8, fun z => absurd (by rw [z]; rfl) h9, fun z => absurd (by rw [z]; rfl) h10⟩, fun _ => rfl⟩, fun hq => b51_0 (fun z => absurd z hlo) (fun _ => b51_4 (fun z => ?_) (fun _ => b51_10 (post hq)))⟩
      rw [show (12 : Int32) = nI 12 from rfl, nI_ltI (by decide) hk31] at z
      exact absurd z hhi
theorem x_fit {k : Nat} (h : Rd nv sd x y p1 q1 p2 q2) (hF : Fit k q1 p2 q2) : Er (d + 4) 51 (0, ent 51 [.ref 0, .int (nI k)], [], KS σ nv sd g) (.inl none, KS σ nv sd g, 0) := by
  obtain ⟨b, _, hb, hE⟩ := x_fitb (d := d) (σ := σ) (g := g) (x1 := nI k) h
  have : b = 1 := hb.mpr ⟨k, rfl, by have := hF.1; omega, hF⟩
  subst this
  exact hE (b51_88 (fun _ => b51_102) (fun z => absurd z (by decide)))
theorem x_fitx {x1 : Int32} (h : Rd nv sd x y p1 q1 p2 q2) (hF : ¬ ∃ k, x1 = nI k ∧ k < 2 ^ 31 ∧ Fit k q1 p2 q2) : Er (d + 6) 51 (0, ent 51 [.ref 0, .int x1], [], KS σ nv sd g) (.inr 1, KS σ nv sd g, 1) := by
  obtain ⟨b, hb0, hb, hE⟩ := x_fitb (d := d + 2) (σ := σ) (g := g) (x1 := x1) h
  have : b = 0 := by
    rcases hb0 with z | z
    · exact z
    · exact absurd (hb.mp z) hF
  subst this
  exact hE (b51_88 (fun z => absurd rfl z) (fun _ => b51_92))
def Dz (k : Nat) (x y : Int) : Prop := ((3 ≤ k ∧ k ≤ 7) ∧ y = 0) ∨ (k = 9 ∧ x = 0 ∧ y < 0)
theorem x_divs {k : Nat} (hk : k ≤ 12) (h : Rd nv sd x y p1 q1 p2 q2) (h1 : Num x p1 q1) (h2 : Num y p2 q2) :
    (Dz k x y → Er (d + 6) 52 (0, ent 52 [.ref 0, .int (nI k)], [], KS σ nv sd g) (.inr 2, KS σ nv sd g, 1)) ∧ (¬ Dz k x y → Er (d + 6) 52 (0, ent 52 [.ref 0, .int (nI k)], [], KS σ nv sd g) (.inl none, KS σ nv sd g, 0)) := by
  obtain ⟨hb, e8, e9, e10, e11, e5, e6⟩ := h
  have hx := h1.s
  have hy := h2.s
  have g5 : gfi (KS σ nv sd g) (fr 0 3) 2 = iZ x := by rw [f03, KS_sd (by decide), e5]
  have g6 : gfi (KS σ nv sd g) (fr 0 4) 2 = iZ y := by rw [f04, KS_sd (by decide), e6]
  have y0 : iZ y = 0 ↔ y = 0 := by rw [iZ0]; exact iz_eq (by omega) (by omega) (by decide) (by decide)
  have x0 : iZ x = 0 ↔ x = 0 := by rw [iZ0]; exact iz_eq (by omega) (by omega) (by decide) (by decide)
  have yg : 0 ≤ iZ y ↔ 0 ≤ y := iz_ge0 (by omega) (by omega)
  have e9k : nI k = 9 ↔ k = 9 := nI_eq (b := 9) (by omega) (by decide)
  have A : ∀ {q : Rs}, (((3 ≤ k ∧ k ≤ 7) ∧ y = 0) → Er (d + 6) 52 (26, [some (.ref 0), some (.int (nI k)), none, none], [.int 1], KS σ nv sd g) q) → (¬ ((3 ≤ k ∧ k ≤ 7) ∧ y = 0) → Er (d + 6) 52 (26, [some (.ref 0), some (.int (nI k)), none, none], [.int 0], KS σ nv sd g) q) → Er (d + 6) 52 (0, ent 52 [.ref 0, .int (nI k)], [], KS σ nv sd g) q := by
    intro q ht hf
    refine b52_0 (fun z => b52_25 (hf ?_)) (fun z => b52_5 (fun w => b52_25 (hf ?_)) (fun w => b52_11 k0 k6 (fun v => b52_25 (hf ?_)) (fun v => b52_21 (ht ?_))))
    · have := (nI_ltI (b := 3) (by omega) (by decide)).mp z; omega
    · have := (nI_ltI (a := 7) (by decide) (by omega)).mp w; omega
    · rw [g6, y0] at v; omega
    · rw [g6, y0] at v
      have a := mt (nI_ltI (a := k) (b := 3) (by omega) (by decide)).mpr z
      have b := mt (nI_ltI (a := 7) (b := k) (by decide) (by omega)).mpr w
      exact ⟨⟨by omega, by omega⟩, v⟩
  have Bq : ∀ {q : Rs} {b : Int32}, ((k = 9 ∧ x = 0 ∧ y < 0) → Er (d + 6) 52 (58, [some (.ref 0), some (.int (nI k)), some (.int b), none], [.int 1], KS σ nv sd g) q) → (¬ (k = 9 ∧ x = 0 ∧ y < 0) → Er (d + 6) 52 (58, [some (.ref 0), some (.int (nI k)), some (.int b), none], [.int 0], KS σ nv sd g) q) → Er (d + 6) 52 (26, [some (.ref 0), some (.int (nI k)), none, none], [.int b], KS σ nv sd g) q := by
    intro q b ht hf
    refine b52_26 (fun z => b52_57 (hf ?_)) (fun z => b52_33 k0 k5 (fun w => b52_57 (hf ?_)) (fun w => b52_43 k0 k6 (fun v => b52_57 (hf ?_)) (fun v => b52_53 (ht ?_))))
    · rw [e9k] at z; exact fun c => z c.1
    · rw [g5, x0] at w; exact fun c => w c.2.1
    · rw [g6, yg] at v; omega
    · rw [e9k] at z
      rw [g5, x0] at w
      rw [g6, yg] at v
      exact ⟨z, w, by omega⟩
  refine ⟨fun hD => ?_, fun hD => ?_⟩
  · refine A (fun _ => Bq (fun _ => b52_58 (fun _ => b52_67) (fun z => absurd z (by decide))) (fun _ => b52_58 (fun _ => b52_67) (fun z => absurd z (by decide)))) (fun na => Bq (fun _ => b52_58 (fun z => absurd rfl z) (fun _ => b52_63 (fun z => absurd z (by decide)) (fun _ => b52_67))) (fun nb => ?_))
    exact absurd hD (fun c => c.elim na nb)
  · refine A (fun ha => absurd (Or.inl ha) hD) (fun _ => Bq (fun hb => absurd (Or.inr hb) hD) (fun _ => ?_))
    exact b52_58 (fun z => absurd rfl z) (fun _ => b52_63 (fun _ => b52_77) (fun z => absurd rfl z))
end
