/-! NumberModels: calls -/
def Cl (d m : Nat) (args : List Value) (σ : St) (q : Option Value ⊕ Nat) (σ2 : St) : Prop := ∀ nv sd g, Bd nv → ∃ nv2 sd2 g2 c, Bd nv2 ∧ c ≤ 1 ∧ Er d m (0, ent m args, [], KS σ nv sd g) (q, KS σ2 nv2 sd2 g2, c)
theorem x_fin {d n : Nat} {σ : St} {nv : Nat → Nat} {sd : Nat → Int32} {g : Nat → Nat → Int64} {s : Int} {p q : Nat} (hn : gfi σ 0 2 = nI n) (h60 : n ≤ 60) (h : Mad nv sd s p q) :
    Er (d + 7) 42 (0, ent 42 [.ref 0], [], KS σ nv sd g) (if n < 60 ∧ bln p ≤ 256 ∧ bln q ≤ 256 then (.inl (some (.int (nI n))), KS (kept σ n (iZ s) p q) nv sd g, 0) else (.inr 3, KS σ nv sd g, 1)) := by
  obtain ⟨hb, e12, e13, e7⟩ := h
  have := x_keep (d := d) (σ := σ) (sd := sd) (g := g) hn h60 hb
  rw [e12, e13, e7] at this
  exact this
def addQ (n : Nat) (T : Int × Nat × Nat) : Option Value ⊕ Nat := if n < 60 ∧ bln T.2.1 ≤ 256 ∧ bln T.2.2 ≤ 256 then .inl (some (.int (nI n))) else .inr 3
def addS (σ : St) (n : Nat) (T : Int × Nat × Nat) : St := if n < 60 ∧ bln T.2.1 ≤ 256 ∧ bln T.2.2 ≤ 256 then kept σ n (iZ T.1) T.2.1 T.2.2 else σ
/-- a call that ends in keeping what is made -/
theorem x_end {d m n : Nat} {args : List Value} {σ : St} {nv0 nv : Nat → Nat} {sd0 sd : Nat → Int32} {g0 g : Nat → Nat → Int64} {T : Int × Nat × Nat} (hn : gfi σ 0 2 = nI n) (h60 : n ≤ 60) (h : Mad nv sd T.1 T.2.1 T.2.2)
    (hok : Er (d + 7) 42 (0, ent 42 [.ref 0], [], KS σ nv sd g) (.inl (some (.int (nI n))), KS (kept σ n (iZ T.1) T.2.1 T.2.2) nv sd g, 0) → Er (d + 8) m (0, ent m args, [], KS σ nv0 sd0 g0) (.inl (some (.int (nI n))), KS (kept σ n (iZ T.1) T.2.1 T.2.2) nv sd g, 0))
    (hx : Er (d + 7) 42 (0, ent 42 [.ref 0], [], KS σ nv sd g) (.inr 3, KS σ nv sd g, 1) → Er (d + 8) m (0, ent m args, [], KS σ nv0 sd0 g0) (.inr 3, KS σ nv sd g, 1)) :
    ∃ nv2 sd2 g2 c, Bd nv2 ∧ c ≤ 1 ∧ Er (d + 8) m (0, ent m args, [], KS σ nv0 sd0 g0) (addQ n T, KS (addS σ n T) nv2 sd2 g2, c) := by
  have hb := h.1
  have t := x_fin (d := d) (g := g) hn h60 h
  by_cases c : n < 60 ∧ bln T.2.1 ≤ 256 ∧ bln T.2.2 ≤ 256
  · rw [if_pos c] at t
    refine ⟨nv, sd, g, 0, hb, by decide, ?_⟩
    unfold addQ addS
    rw [if_pos c, if_pos c]
    exact hok t
  · rw [if_neg c] at t
    refine ⟨nv, sd, g, 1, hb, by decide, ?_⟩
    unfold addQ addS
    rw [if_neg c, if_neg c]
    exact hx t
theorem abs_lN (v : Int64) : (if v < 0 then -v else v) = lN v.toInt.natAbs := by
  have h1 := Int64.le_toInt v
  have h2 := Int64.toInt_lt v
  have t0 : (0 : Int64).toInt = 0 := rfl
  by_cases h : v < 0
  · rw [if_pos h]
    rw [l_lt, t0] at h
    conv => lhs; rw [← lZ_s v]
    rw [lZ_neg, ← lZ_N]
    congr 1
    omega
  · rw [if_neg h]
    rw [l_lt, t0] at h
    conv => lhs; rw [← lZ_s v]
    rw [← lZ_N]
    congr 1
    omega
theorem abs_64 (v : Int64) : v.toInt.natAbs < 2 ^ 64 := by
  have h1 := Int64.le_toInt v
  have h2 := Int64.toInt_lt v
  omega
section
variable {d n : Nat} {σ : St} {sg : Nat → Int} {P Q : Nat → Nat}
theorem Db.num {a : Nat} (h : Db n sg P Q) (ha : a < n) : Num (sg a) (P a) (Q a) := h.2 a ha
theorem lt64 {x : Nat} (h : x < 2 ^ 64) : x < 2 ^ 600 := Nat.lt_trans h (Nat.pow_lt_pow_right (by decide) (by decide))
def wholeT (v : Int64) : Int × Nat × Nat := (cz v.toInt 0, v.toInt.natAbs, 1)
theorem x_whole {v : Int64} (hD : Db n sg P Q) (hC : CD σ n sg P Q) : Cl (d + 8) 39 [.ref 0, .long v] σ (addQ n (wholeT v)) (addS σ n (wholeT v)) := by
  intro nv sd g hb
  have t1 := c_compare (d := d + 6) (x := v) (y := 0) (σ := KS σ nv sd g)
  have t2 := x_sizeOf (d := d + 6) (v := v) (S := KS σ nv (upi sd 7 (cmpI v.toInt (0 : Int64).toInt)) g)
  rw [abs_lN] at t2
  have b1 := Bd_up (i := 12) hb (l640 (lt64 (abs_64 v)))
  have t3 := m_takeJ (d := d + 5) (σ := σ) (nv := nv) (sd := upi sd 7 (cmpI v.toInt (0 : Int64).toInt)) (g := g) (i := 12) N12 hb (abs_64 v)
  have t4 := m_takeJ (d := d + 5) (σ := σ) (nv := up nv 12 v.toInt.natAbs) (sd := upi sd 7 (cmpI v.toInt (0 : Int64).toInt)) (g := g) (i := 13) (n := 1) N13 b1 (by decide)
  have hM : Mad (up (up nv 12 v.toInt.natAbs) 13 1) (upi sd 7 (cmpI v.toInt (0 : Int64).toInt)) (wholeT v).1 (wholeT v).2.1 (wholeT v).2.2 := ⟨Bd_up b1 (Nat.one_lt_two_pow (by decide)), by rw [up_n (by decide), up_s]; rfl, by rw [up_s]; rfl, by rw [upi_s, cmpI_cz]; rfl⟩
  have run : ∀ {q : Rs}, Er (d + 8) 39 (37, [some (.ref 0), some (.long v), none], [], KS σ (up (up nv 12 v.toInt.natAbs) 13 1) (upi sd 7 (cmpI v.toInt (0 : Int64).toInt)) g) q → Er (d + 8) 39 (0, ent 39 [.ref 0, .long v], [], KS σ nv sd g) q := by
    intro q hq
    refine b39_0 k0 t1 (b39_9 (σ2 := KS σ nv (upi sd 7 (cmpI v.toInt (0 : Int64).toInt)) g) (r := lN v.toInt.natAbs) k7s k0 k7 ?_ (b39_23 N12.k t3 (b39_26 k0 k7 N13.k t4 hq)))
    rw [f05, KS_ssd (by decide)]
    exact t2
  exact x_end hC.1 hD.1 hM (fun t => run (b39_37 k0 t b39_41)) (fun t => run (b39_37x k0 (by decide) t))
def fracT (p q : Int64) : Int × Nat × Nat := mk3 (cz p.toInt 0 * cz q.toInt 0, p.toInt.natAbs, q.toInt.natAbs)
theorem x_fractionx {p : Int64} : Cl (d + 6) 45 [.ref 0, .long p, .long 0] σ (.inr 2) σ := by
  intro nv sd g hb
  exact ⟨nv, sd, g, 1, hb, by decide, b45_0 (fun z => absurd rfl z) (fun _ => b45_6)⟩
theorem x_fraction {p q : Int64} (hD : Db n sg P Q) (hC : CD σ n sg P Q) (hq : q ≠ 0) : Cl (d + 8) 45 [.ref 0, .long p, .long q] σ (addQ n (fracT p q)) (addS σ n (fracT p q)) := by
  intro nv sd g hb
  have hq0 : 0 < q.toInt.natAbs := by
    have : ¬ q.toInt = 0 := fun z => hq (l_eq.mpr z)
    omega
  obtain ⟨s, hs⟩ : ∃ s, s = cz p.toInt 0 * cz q.toInt 0 := ⟨_, rfl⟩
  have t1 := c_compare (d := d + 6) (x := p) (y := 0) (σ := KS σ nv sd g)
  have t1b := c_compare (d := d + 6) (x := q) (y := 0) (σ := KS σ nv sd g)
  rw [cmpI_cz] at t1 t1b
  have t2 := x_sizeOf (d := d + 6) (v := p) (S := KS σ nv (upi sd 7 (iZ s)) g)
  rw [abs_lN] at t2
  have b1 := Bd_up (i := 12) hb (l640 (lt64 (abs_64 p)))
  have b2 := Bd_up (i := 13) b1 (l640 (lt64 (abs_64 q)))
  have t3 := m_takeJ (d := d + 5) (σ := σ) (nv := nv) (sd := upi sd 7 (iZ s)) (g := g) (i := 12) N12 hb (abs_64 p)
  have t2b := x_sizeOf (d := d + 6) (v := q) (S := KS σ (up nv 12 p.toInt.natAbs) (upi sd 7 (iZ s)) g)
  rw [abs_lN] at t2b
  have t4 := m_takeJ (d := d + 5) (σ := σ) (nv := up nv 12 p.toInt.natAbs) (sd := upi sd 7 (iZ s)) (g := g) (i := 13) N13 b1 (abs_64 q)
  have v12 : up (up nv 12 p.toInt.natAbs) 13 q.toInt.natAbs 12 = p.toInt.natAbs := by rw [up_n (by decide), up_s]
  have v13 : up (up nv 12 p.toInt.natAbs) 13 q.toInt.natAbs 13 = q.toInt.natAbs := up_s _ _ _
  obtain ⟨nv2, g2, t5, w12, w13, b3⟩ := x_reduce (d := d + 1) (σ := σ) (sd := upi sd 7 (iZ s)) (g := g) b2 (by rw [v12]; exact lt64 (abs_64 p)) (by rw [v13]; exact lt64 (abs_64 q)) (by rw [v13]; exact hq0)
  rw [v12, v13] at w12 w13
  rw [v12, upi_s] at t5
  have hM : Mad nv2 (upi (upi sd 7 (iZ s)) 7 (if p.toInt.natAbs = 0 then 0 else iZ s)) (fracT p q).1 (fracT p q).2.1 (fracT p q).2.2 := by
    refine ⟨b3, w12, w13, ?_⟩
    rw [upi_s]
    unfold fracT mk3
    simp only
    by_cases z : p.toInt.natAbs = 0
    · rw [if_pos z, if_pos z]; rfl
    · rw [if_neg z, if_neg z, hs]
  have run : ∀ {r : Rs}, Er (d + 8) 45 (66, [some (.ref 0), some (.long p), none, some (.long q), none], [], KS σ nv2 (upi (upi sd 7 (iZ s)) 7 (if p.toInt.natAbs = 0 then 0 else iZ s)) g2) r → Er (d + 8) 45 (0, ent 45 [.ref 0, .long p, .long q], [], KS σ nv sd g) r := by
    intro r hr
    refine b45_0 (fun _ => ?_) (fun z => absurd z hq)
    refine b45_16 k0 t1 (b45_25 t1b (b45_30 (σ2 := KS σ nv (upi sd 7 (iZ s)) g) (r := lN p.toInt.natAbs) k7s k0 k7 ?_ (b45_45 N12.k t3 (b45_48 k0 k7 t2b (b45_59 N13.k t4 (b45_62 k0 t5 hr))))))
    rw [f05, KS_ssd (by decide), iZ_mul, show (0 : Int64).toInt = 0 from rfl, ← hs]
    exact t2
  exact x_end hC.1 hD.1 hM (fun t => run (b45_66 k0 t b45_70)) (fun t => run (b45_66x k0 (by decide) t))
def actT (k : Nat) (sg : Nat → Int) (P Q : Nat → Nat) (a b : Nat) : Int × Nat × Nat := mk3 (actM k (sg a) (P a) (Q a) (sg b) (P b) (Q b))
theorem x_rd {a b : Nat} {nv : Nat → Nat} {sd : Nat → Int32} (hD : Db n sg P Q) (ha : a < n) (hb : b < n) (h : Bd nv) : Rd (up (up (up (up nv 8 (P a)) 9 (Q a)) 10 (P b)) 11 (Q b)) (upi (upi sd 5 (iZ (sg a))) 6 (iZ (sg b))) (sg a) (sg b) (P a) (Q a) (P b) (Q b) := by
  have n1 := hD.num ha
  have n2 := hD.num hb
  refine ⟨Bd_up (Bd_up (Bd_up (Bd_up h (lt640 n1.1)) (lt640 n1.2.1)) (lt640 n2.1)) (lt640 n2.2.1), ?_, ?_, ?_, ?_, ?_, ?_⟩
  · rw [up_n (by decide), up_n (by decide), up_n (by decide), up_s]
  · rw [up_n (by decide), up_n (by decide), up_s]
  · rw [up_n (by decide), up_s]
  · rw [up_s]
  · rw [upi_n (by decide), upi_s]
  · rw [upi_s]
theorem x_actx0 {x1 x2 x3 : Int32} (hD : Db n sg P Q) (hC : CD σ n sg P Q) (h : ¬ ((∃ a, a < n ∧ x2 = nI a) ∧ ∃ b, b < n ∧ x3 = nI b)) : Cl (d + 7) 48 [.ref 0, .int x1, .int x2, .int x3] σ (.inr 0) σ := by
  intro nv sd g hb
  have hn : gfi (KS σ nv sd g) 0 2 = nI n := by rw [KS_fi (by decide)]; exact hC.1
  by_cases ha : ∃ a, a < n ∧ x2 = nI a
  · obtain ⟨a, ha, rfl⟩ := ha
    exact ⟨nv, sd, g, 1, hb, by decide, b48_0 k0 (x_need hn hD.1 ha) (b48_5x k0 (by decide) (x_needx (d := d) hn hD.1 (fun z => h ⟨⟨a, ha, rfl⟩, z⟩)))⟩
  · exact ⟨nv, sd, g, 1, hb, by decide, b48_0x k0 (by decide) (x_needx (d := d) hn hD.1 ha)⟩
theorem x_actp {x1 : Int32} {a b : Nat} {nv : Nat → Nat} {sd : Nat → Int32} {g : Nat → Nat → Int64} {q : Rs} (hD : Db n sg P Q) (hC : CD σ n sg P Q) (ha : a < n) (hb : b < n) (h : Bd nv)
    (hq : Er (d + 4) 48 (28, [some (.ref 0), some (.int x1), some (.int (nI a)), some (.int (nI b))], [], KS σ (up (up (up (up nv 8 (P a)) 9 (Q a)) 10 (P b)) 11 (Q b)) (upi (upi sd 5 (iZ (sg a))) 6 (iZ (sg b))) g) q) : Er (d + 4) 48 (0, ent 48 [.ref 0, .int x1, .int (nI a), .int (nI b)], [], KS σ nv sd g) q := by
  have hn : gfi (KS σ nv sd g) 0 2 = nI n := by rw [KS_fi (by decide)]; exact hC.1
  have n1 := hD.num ha
  have b1 : Bd (up (up nv 8 (P a)) 9 (Q a)) := Bd_up (Bd_up h (lt640 n1.1)) (lt640 n1.2.1)
  exact b48_0 k0 (x_need hn hD.1 ha) (b48_5 k0 (x_need hn hD.1 hb) (b48_10 k0 (x_read (r := 5) hD hC ha ⟨by decide, by decide⟩ h) (b48_19 k0 (x_read (r := 6) hD hC hb ⟨by decide, by decide⟩ b1) hq)))
theorem x_actx1 {x1 : Int32} {a b : Nat} (hD : Db n sg P Q) (hC : CD σ n sg P Q) (ha : a < n) (hb : b < n) (h : ¬ ∃ k, x1 = nI k ∧ k < 2 ^ 31 ∧ Fit k (Q a) (P b) (Q b)) : Cl (d + 7) 48 [.ref 0, .int x1, .int (nI a), .int (nI b)] σ (.inr 1) σ := by
  intro nv sd g hbd
  have hr := x_rd (sd := sd) hD ha hb hbd
  exact ⟨_, _, g, 1, hr.1, by decide, x_actp (d := d + 3) hD hC ha hb hbd (b48_28x k0 (by decide) (x_fitx (d := d) hr h))⟩
theorem x_actx2 {a b k : Nat} (hD : Db n sg P Q) (hC : CD σ n sg P Q) (ha : a < n) (hb : b < n) (h : Fit k (Q a) (P b) (Q b)) (hz : Dz k (sg a) (sg b)) : Cl (d + 7) 48 [.ref 0, .int (nI k), .int (nI a), .int (nI b)] σ (.inr 2) σ := by
  intro nv sd g hbd
  have hr := x_rd (sd := sd) hD ha hb hbd
  exact ⟨_, _, g, 1, hr.1, by decide, x_actp (d := d + 3) hD hC ha hb hbd (b48_28 k0 (x_fit (d := d + 2) hr h) (b48_33x k0 (by decide) ((x_divs (d := d) h.1 hr (hD.num ha) (hD.num hb)).1 hz)))⟩
theorem x_act {a b k : Nat} (hD : Db n sg P Q) (hC : CD σ n sg P Q) (ha : a < n) (hb : b < n) (h : Fit k (Q a) (P b) (Q b)) (hz : ¬ Dz k (sg a) (sg b)) : Cl (d + 10) 48 [.ref 0, .int (nI k), .int (nI a), .int (nI b)] σ (addQ n (actT k sg P Q a b)) (addS σ n (actT k sg P Q a b)) := by
  intro nv sd g hbd
  have hr := x_rd (sd := sd) hD ha hb hbd
  have pre : ∀ {q : Rs}, Er (d + 10) 48 (38, [some (.ref 0), some (.int (nI k)), some (.int (nI a)), some (.int (nI b))], [], KS σ (up (up (up (up nv 8 (P a)) 9 (Q a)) 10 (P b)) 11 (Q b)) (upi (upi sd 5 (iZ (sg a))) 6 (iZ (sg b))) g) q → Er (d + 10) 48 (0, ent 48 [.ref 0, .int (nI k), .int (nI a), .int (nI b)], [], KS σ nv sd g) q := by
    intro q hq
    exact x_actp (d := d + 6) hD hC ha hb hbd (b48_28 k0 (x_fit (d := d + 5) hr h) (b48_33 k0 ((x_divs (d := d + 3) h.1 hr (hD.num ha) (hD.num hb)).2 hz) hq))
  by_cases h7 : k ≤ 7
  · obtain ⟨nv2, sd2, g2, s, p, q, hE, hM, hmk, hp6, hq6, hq0⟩ := x_perf7 (d := d) (σ := σ) (g := g) h7 hr (hD.num ha) (hD.num hb) hz
    obtain ⟨hb2, v12, v13, v7⟩ := hM
    obtain ⟨nv3, g3, hE3, w12, w13, hb3⟩ := x_reduce (d := d + 3) (σ := σ) (sd := sd2) (g := g2) hb2 (by rw [v12]; exact hp6) (by rw [v13]; exact hq6) (by rw [v13]; exact hq0)
    rw [v12, v13] at w12 w13
    rw [v12] at hE3
    have hM3 : Mad nv3 (upi sd2 7 (if p = 0 then 0 else sd2 7)) (actT k sg P Q a b).1 (actT k sg P Q a b).2.1 (actT k sg P Q a b).2.2 := by
      unfold actT
      rw [← hmk]
      refine ⟨hb3, w12, w13, ?_⟩
      rw [upi_s]
      unfold mk3
      simp only
      by_cases z : p = 0
      · rw [if_pos z, if_pos z]; rfl
      · rw [if_neg z, if_neg z, v7]
    have le7 : ¬ (7 : Int32) < nI k := nI_nlt (a := 7) h7 (by decide)
    exact x_end (d := d + 2) hC.1 hD.1 hM3 (fun t => pre (b48_38 k0 hE (b48_43 (fun z => absurd z le7) (fun _ => b48_49 k0 hE3 (b48_53 k0 t b48_57))))) (fun t => pre (b48_38 k0 hE (b48_43 (fun z => absurd z le7) (fun _ => b48_49 k0 hE3 (b48_53x k0 (by decide) t)))))
  · have gt7 : (7 : Int32) < nI k := nI_lt (a := 7) (by omega) (by have := h.1; omega)
    obtain ⟨nv2, sd2, g2, hE | hE⟩ := x_perf8 (d := d) (σ := σ) (g := g) (by omega) hr (hD.num ha) (hD.num hb) h hz
    · obtain ⟨hE, hM⟩ := hE
      exact x_end (d := d + 2) hC.1 hD.1 hM (fun t => pre (b48_38 k0 hE (b48_43 (fun _ => b48_53 k0 t b48_57) (fun z => absurd gt7 z)))) (fun t => pre (b48_38 k0 hE (b48_43 (fun _ => b48_53x k0 (by decide) t) (fun z => absurd gt7 z))))
    · obtain ⟨hE, hb2, hno⟩ := hE
      have e1 : addQ n (actT k sg P Q a b) = .inr 3 := if_neg (fun c => hno c.2)
      have e2 : addS σ n (actT k sg P Q a b) = σ := if_neg (fun c => hno c.2)
      rw [e1, e2]
      exact ⟨nv2, sd2, g2, 1, hb2, by decide, pre (b48_38x k0 (by decide) hE)⟩
end
