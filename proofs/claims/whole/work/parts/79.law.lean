/-! what holds between the law's turns -/
def LI (σ : St) (n : Nat) (sg : Nat → Int) (P Q : Nat → Nat) (xs : Nat → Int32) (N : Nat) : Prop := Db n sg P Q ∧ CD σ n sg P Q ∧ MD σ n sg P Q ∧ gai σ 48 = xs ∧ gsl σ = N
section
variable {σ σ2 : St} {n : Nat} {sg : Nat → Int} {P Q : Nat → Nat} {xs : Nat → Int32} {N : Nat}
theorem CD_eq (h : CD σ n sg P Q) (h1 : gfi σ2 0 2 = gfi σ 0 2) (h2 : gai σ2 41 = gai σ 41) (h3 : gal σ2 40 = gal σ 40) : CD σ2 n sg P Q := by
  unfold CD
  rw [h1, h2, h3]
  exact h
theorem MD_eq (h : MD σ n sg P Q) (h1 : gfi σ2 1 1 = gfi σ 1 1) (h2 : gai σ2 42 = gai σ 42) (h3 : gal σ2 43 = gal σ 43) : MD σ2 n sg P Q := by
  unfold MD
  rw [h1, h2, h3]
  exact h
theorem CD_Z {rv : Nat → Nat} {f : Nat → Int32} (h : CD σ n sg P Q) : CD (ZS σ rv f) n sg P Q := by
  refine CD_eq h ?_ rfl (ZS_al (by decide))
  show (if (0 : Nat) = 1 ∧ (2 : Nat) ≠ 1 then f 2 else σ.1 0 2) = _
  rw [if_neg (by decide)]
  rfl
theorem MD_K {nv : Nat → Nat} {sd : Nat → Int32} {g : Nat → Nat → Int64} (h : MD σ n sg P Q) : MD (KS σ nv sd g) n sg P Q := MD_eq h (KS_fi (by decide)) rfl (KS_al (by decide))
theorem gal_so {v : Int64} {a : Nat} (h : a ≠ 45) : gal (sal σ 45 0 v) a = gal σ a := by
  unfold sal
  rw [gal_sar, if_neg h]
theorem gal_o {v : Int64} : gal (sal σ 45 0 v) 45 0 = v := by
  unfold sal
  rw [gal_sar, if_pos rfl]
  rfl
theorem LI_out {v : Int64} (h : LI σ n sg P Q xs N) : LI (sal σ 45 0 v) n sg P Q xs N := ⟨h.1, CD_eq h.2.1 rfl rfl (gal_so (by decide)), MD_eq h.2.2.1 rfl rfl (gal_so (by decide)), h.2.2.2.1, h.2.2.2.2⟩
theorem Db_add {T : Int × Nat × Nat} (h : Db n sg P Q) (hn : n < 60) (hT : Num T.1 T.2.1 T.2.2) : Db (n + 1) (upZ sg n T.1) (up P n T.2.1) (up Q n T.2.2) := by
  refine ⟨by omega, ?_⟩
  intro a ha
  by_cases e : a = n
  · subst e
    unfold upZ
    rw [if_pos rfl, up_s, up_s]
    exact hT
  · unfold upZ
    rw [if_neg e, up_n e, up_n e]
    exact h.2 a (by omega)
theorem LI_add {T : Int × Nat × Nat} {v : Int64} (h : LI σ n sg P Q xs N) (hn : n < 60) (hT : Num T.1 T.2.1 T.2.2) : LI (mkept (sal (kept σ n (iZ T.1) T.2.1 T.2.2) 45 0 v) n (iZ T.1) T.2.1 T.2.2) (n + 1) (upZ sg n T.1) (up P n T.2.1) (up Q n T.2.2) xs N := by
  have hM : MD (sal (kept σ n (iZ T.1) T.2.1 T.2.2) 45 0 v) n sg P Q := MD_eq h.2.2.1 rfl rfl (gal_so (by decide))
  have hC : CD (sal (kept σ n (iZ T.1) T.2.1 T.2.2) 45 0 v) (n + 1) (upZ sg n T.1) (up P n T.2.1) (up Q n T.2.2) := CD_eq (CD_kept h.2.1) rfl rfl (gal_so (by decide))
  exact ⟨Db_add h.1 hn hT, CD_eq hC rfl rfl rfl, MD_kept hM, h.2.2.2.1, h.2.2.2.2⟩
theorem Num_mk3 {s : Int} {p q : Nat} (hq : 0 < q) (hs : p ≠ 0 → s = 1 ∨ s = -1) (b1 : bln (mk3 (s, p, q)).2.1 ≤ 256) (b2 : bln (mk3 (s, p, q)).2.2 ≤ 256) : Num (mk3 (s, p, q)).1 (mk3 (s, p, q)).2.1 (mk3 (s, p, q)).2.2 := by
  have hg : 0 < Nat.gcd p q := Nat.gcd_pos_of_pos_right _ hq
  have d1 : Nat.gcd p q ∣ p := Nat.gcd_dvd_left _ _
  have d2 : Nat.gcd p q ∣ q := Nat.gcd_dvd_right _ _
  refine ⟨b256.mp b1, b256.mp b2, ?_, ?_, ?_⟩
  · exact Nat.div_pos (Nat.le_of_dvd hq d2) hg
  · exact Nat.gcd_div_gcd_div_gcd_of_pos_right hq
  · show (p / Nat.gcd p q = 0 ∧ (if p = 0 then 0 else s) = 0) ∨ (0 < p / Nat.gcd p q ∧ ((if p = 0 then 0 else s) = 1 ∨ (if p = 0 then 0 else s) = -1))
    by_cases c : p = 0
    · left
      rw [if_pos c, c, Nat.zero_div]
      exact ⟨rfl, rfl⟩
    · right
      rw [if_neg c]
      exact ⟨Nat.div_pos (Nat.le_of_dvd (by omega) d1) hg, hs c⟩
theorem actM_ok {k : Nat} {x y : Int} {p1 q1 p2 q2 : Nat} (h1 : Num x p1 q1) (h2 : Num y p2 q2) (hz : ¬ Dz k x y) : 0 < (actM k x p1 q1 y p2 q2).2.2 ∧ ((actM k x p1 q1 y p2 q2).2.1 ≠ 0 → (actM k x p1 q1 y p2 q2).1 = 1 ∨ (actM k x p1 q1 y p2 q2).1 = -1) := by
  obtain ⟨_, _, a0, _, as⟩ := h1
  obtain ⟨_, _, b0, _, bs⟩ := h2
  have qq : 0 < q1 * q2 := Nat.mul_pos a0 b0
  have xs1 : x = 0 ∨ x = 1 ∨ x = -1 := by omega
  have ys1 : y = 0 ∨ y = 1 ∨ y = -1 := by omega
  have hL : p1 * q2 = 0 ↔ p1 = 0 := mul_zero_iff b0
  have hR : p2 * q1 = 0 ↔ p2 = 0 := mul_zero_iff a0
  have xy : x ≠ 0 → y ≠ 0 → x * y = 1 ∨ x * y = -1 := by
    intro hx hy
    rcases xs1 with e | e | e <;> rcases ys1 with e2 | e2 | e2 <;> rw [e, e2] <;> omega
  have sm : ∀ yy : Int, (yy = y ∨ yy = -y) → 0 < (sumM x yy (p1 * q2) (p2 * q1) (q1 * q2)).2.2 ∧ ((sumM x yy (p1 * q2) (p2 * q1) (q1 * q2)).2.1 ≠ 0 → (sumM x yy (p1 * q2) (p2 * q1) (q1 * q2)).1 = 1 ∨ (sumM x yy (p1 * q2) (p2 * q1) (q1 * q2)).1 = -1) := by
    intro yy hyy
    unfold sumM
    by_cases c : x = 0 ∨ yy = 0 ∨ x = yy
    · rw [if_pos c]
      refine ⟨qq, ?_⟩
      intro hne
      have hne2 : p1 * q2 + p2 * q1 ≠ 0 := hne
      show (if x = 0 then yy else x) = 1 ∨ (if x = 0 then yy else x) = -1
      by_cases cx : x = 0
      · rw [if_pos cx]
        have : p1 = 0 := by omega
        have h3 := hL.mpr this
        have h4 : p2 ≠ 0 := fun e => hne2 (by rw [h3, hR.mpr e])
        omega
      · rw [if_neg cx]
        omega
    · rw [if_neg c]
      by_cases cc : p2 * q1 ≤ p1 * q2
      · rw [if_pos cc]
        exact ⟨qq, fun _ => by show x = 1 ∨ x = -1; omega⟩
      · rw [if_neg cc]
        exact ⟨qq, fun _ => by show yy = 1 ∨ yy = -1; omega⟩
  have dv : 3 ≤ k → k ≤ 7 → y ≠ 0 ∧ 0 < p2 * q1 := by
    intro k3 k7
    have hy : y ≠ 0 := fun e => hz (Or.inl ⟨⟨k3, k7⟩, e⟩)
    exact ⟨hy, Nat.mul_pos (by omega) a0⟩
  have nz : p1 * q2 ≠ 0 → x ≠ 0 := by
    intro h
    have : p1 ≠ 0 := fun e => h (hL.mpr e)
    omega
  have dvn : p1 * q2 / (p2 * q1) ≠ 0 → x ≠ 0 := by
    intro h
    apply nz
    intro e
    rw [e, Nat.zero_div] at h
    exact h rfl
  have rmn : p1 * q2 % (p2 * q1) ≠ 0 → x ≠ 0 := by
    intro h
    apply nz
    intro e
    rw [e, Nat.zero_mod] at h
    exact h rfl
  match k, hz, dv with
  | 0, _, _ => exact sm y (Or.inl rfl)
  | 1, _, _ => exact sm (-y) (Or.inr rfl)
  | 2, _, _ =>
    refine ⟨qq, fun h => ?_⟩
    have h2 : p1 * p2 ≠ 0 := h
    have e1 : p1 ≠ 0 := fun e => h2 (by rw [e, Nat.zero_mul])
    have e2 : p2 ≠ 0 := fun e => h2 (by rw [e, Nat.mul_zero])
    exact xy (by omega) (by omega)
  | 3, _, dv =>
    obtain ⟨hy, hr⟩ := dv (by decide) (by decide)
    exact ⟨hr, fun h => xy (nz h) hy⟩
  | 4, _, dv =>
    obtain ⟨hy, hr⟩ := dv (by decide) (by decide)
    refine ⟨Nat.one_pos, fun h => ?_⟩
    have h2 : quoT true (x * y) (p1 * q2 / (p2 * q1)) (p1 * q2 % (p2 * q1)) ≠ 0 := h
    unfold quoT at h2
    by_cases c : true = true ∧ x * y < 0 ∧ p1 * q2 % (p2 * q1) ≠ 0
    · exact xy (rmn c.2.2) hy
    · rw [if_neg c] at h2
      exact xy (dvn h2) hy
  | 5, _, dv =>
    obtain ⟨hy, hr⟩ := dv (by decide) (by decide)
    show 0 < (if x * y < 0 ∧ p1 * q2 % (p2 * q1) ≠ 0 then (y, p2 * q1 - p1 * q2 % (p2 * q1), q1 * q2) else (x, p1 * q2 % (p2 * q1), q1 * q2)).2.2 ∧ ((if x * y < 0 ∧ p1 * q2 % (p2 * q1) ≠ 0 then (y, p2 * q1 - p1 * q2 % (p2 * q1), q1 * q2) else (x, p1 * q2 % (p2 * q1), q1 * q2)).2.1 ≠ 0 → (if x * y < 0 ∧ p1 * q2 % (p2 * q1) ≠ 0 then (y, p2 * q1 - p1 * q2 % (p2 * q1), q1 * q2) else (x, p1 * q2 % (p2 * q1), q1 * q2)).1 = 1 ∨ (if x * y < 0 ∧ p1 * q2 % (p2 * q1) ≠ 0 then (y, p2 * q1 - p1 * q2 % (p2 * q1), q1 * q2) else (x, p1 * q2 % (p2 * q1), q1 * q2)).1 = -1)
    by_cases c : x * y < 0 ∧ p1 * q2 % (p2 * q1) ≠ 0
    · rw [if_pos c]
      exact ⟨qq, fun _ => by show y = 1 ∨ y = -1; omega⟩
    · rw [if_neg c]
      refine ⟨qq, fun h => ?_⟩
      have := rmn h
      show x = 1 ∨ x = -1
      omega
  | 6, _, dv =>
    obtain ⟨hy, hr⟩ := dv (by decide) (by decide)
    exact ⟨Nat.one_pos, fun h => xy (dvn h) hy⟩
  | 7, _, dv =>
    refine ⟨qq, fun h => ?_⟩
    have := rmn h
    show x = 1 ∨ x = -1
    omega
  | 8, _, _ => exact ⟨Nat.one_pos, fun _ => Or.inl rfl⟩
  | 9, hz, _ =>
    constructor
    · show 0 < (if y < 0 then p1 else q1) ^ p2
      apply Nat.pow_pos
      by_cases c : y < 0
      · rw [if_pos c]
        have : x ≠ 0 := fun e => hz (Or.inr ⟨rfl, e, c⟩)
        omega
      · rw [if_neg c]
        exact a0
    · intro _
      show (if x < 0 ∧ p2 % 2 = 1 then (-1 : Int) else 1) = 1 ∨ (if x < 0 ∧ p2 % 2 = 1 then (-1 : Int) else 1) = -1
      split
      · exact Or.inr rfl
      · exact Or.inl rfl
  | 10, _, _ =>
    constructor
    · show 0 < if 0 < y * p2 then q1 else q1 * 2 ^ p2
      split
      · exact a0
      · exact Nat.mul_pos a0 (Nat.two_pow_pos _)
    · intro h
      have h2 : (if 0 < y * p2 then p1 * 2 ^ p2 else p1) ≠ 0 := h
      have : p1 ≠ 0 := by
        intro e
        rw [e, Nat.zero_mul] at h2
        split at h2 <;> exact h2 rfl
      show x = 1 ∨ x = -1
      omega
  | 11, _, _ =>
    show 0 < (if ordZ x y (p1 * q2) (p2 * q1) ≤ 0 then (x, p1, q1) else (y, p2, q2)).2.2 ∧ ((if ordZ x y (p1 * q2) (p2 * q1) ≤ 0 then (x, p1, q1) else (y, p2, q2)).2.1 ≠ 0 → (if ordZ x y (p1 * q2) (p2 * q1) ≤ 0 then (x, p1, q1) else (y, p2, q2)).1 = 1 ∨ (if ordZ x y (p1 * q2) (p2 * q1) ≤ 0 then (x, p1, q1) else (y, p2, q2)).1 = -1)
    split
    · refine ⟨a0, fun h => ?_⟩
      have h2 : p1 ≠ 0 := h
      show x = 1 ∨ x = -1
      omega
    · refine ⟨b0, fun h => ?_⟩
      have h2 : p2 ≠ 0 := h
      show y = 1 ∨ y = -1
      omega
  | j + 12, _, _ =>
    show 0 < (if 0 < ordZ x y (p1 * q2) (p2 * q1) then (x, p1, q1) else (y, p2, q2)).2.2 ∧ ((if 0 < ordZ x y (p1 * q2) (p2 * q1) then (x, p1, q1) else (y, p2, q2)).2.1 ≠ 0 → (if 0 < ordZ x y (p1 * q2) (p2 * q1) then (x, p1, q1) else (y, p2, q2)).1 = 1 ∨ (if 0 < ordZ x y (p1 * q2) (p2 * q1) then (x, p1, q1) else (y, p2, q2)).1 = -1)
    split
    · refine ⟨a0, fun h => ?_⟩
      have h2 : p1 ≠ 0 := h
      show x = 1 ∨ x = -1
      omega
    · refine ⟨b0, fun h => ?_⟩
      have h2 : p2 ≠ 0 := h
      show y = 1 ∨ y = -1
      omega
end
/-! one call of each, compared -/
def Cs (d w mm : Nat) (aW aM : List Value) (res : Value → Prop) (σ : St) (xs : Nat → Int32) (N : Nat) : Prop := ∃ (σ1 σ2 : St) (cd : Int32) (r : Value), res r ∧ Wr (d + 11) w aW σ cd σ1 ∧ Mr (d + 11) mm aM σ1 r σ2 cd ∧ (∀ v : Int32, r = .int v → cd = 0 → gal σ2 45 0 = v.toInt64) ∧ (∀ v : Int64, r = .long v → cd = 0 → gal σ2 45 0 = v) ∧ gai σ1 48 = xs ∧ gsl σ1 = N ∧ ∃ n2 sg2 P2 Q2, LI σ2 n2 sg2 P2 Q2 xs N
def isI (r : Value) : Prop := ∃ v : Int32, r = .int v
def isJ (r : Value) : Prop := ∃ v : Int64, r = .long v
section
variable {d w cm mm n : Nat} {aW aC aM : List Value} {σ : St} {sg : Nat → Int} {P Q : Nat → Nat} {xs : Nat → Int32} {N : Nat} {T : Int × Nat × Nat} {cc : Int32}
theorem cs_add (h : LI σ n sg P Q xs N) (hC : ∀ rv f, Cl (d + 10) cm aC (ZS σ rv f) (addQ n T) (addS (ZS σ rv f) n T)) (hM : ∀ τ, MD τ n sg P Q → Ml (d + 11) mm aM τ (.int (maV n T)) (maS τ n T) (maC n T cc)) (hT : bln T.2.1 ≤ 256 → bln T.2.2 ≤ 256 → Num T.1 T.2.1 T.2.2)
    (wok : ∀ {r : Int32} {τ : St}, Clx (d + 10) cm aC σ (.inl (some (.int r))) τ → Wr (d + 11) w aW σ 0 (sal τ 45 0 r.toInt64)) (wx : ∀ {τ : St}, Clx (d + 10) cm aC σ (.inr 3) τ → Wr (d + 11) w aW σ cc τ) (hcc : cc ≠ 0) : Cs d w mm aW aM isI σ xs N := by
  by_cases ok : n < 60 ∧ bln T.2.1 ≤ 256 ∧ bln T.2.2 ≤ 256
  · have hx : Clx (d + 10) cm aC σ (.inl (some (.int (nI n)))) (addS σ n T) := by
      apply Clx_of
      intro rv f
      have t := hC rv f
      unfold addQ at t
      rw [if_pos ok, addS_Z] at t
      exact t
    have eS : addS σ n T = kept σ n (iZ T.1) T.2.1 T.2.2 := if_pos ok
    have hw := wok hx
    rw [eS] at hw
    have hMD : MD (sal (kept σ n (iZ T.1) T.2.1 T.2.2) 45 0 (nI n).toInt64) n sg P Q := MD_eq h.2.2.1 rfl rfl (gal_so (by decide))
    have hm : Mr (d + 11) mm aM (sal (kept σ n (iZ T.1) T.2.1 T.2.2) 45 0 (nI n).toInt64) (.int (nI n)) (mkept (sal (kept σ n (iZ T.1) T.2.1 T.2.2) 45 0 (nI n).toInt64) n (iZ T.1) T.2.1 T.2.2) 0 := by
      apply Mr_of
      intro nv sd g
      have t := hM _ (MD_K (nv := nv) (sd := sd) (g := g) hMD)
      unfold maV maC at t
      rw [if_pos ok, if_pos ok, maS_K] at t
      unfold maS at t
      rw [if_pos ok] at t
      exact t
    refine ⟨_, _, 0, _, ⟨_, rfl⟩, hw, hm, ?_, ?_, h.2.2.2.1, h.2.2.2.2, _, _, _, _, LI_add h ok.1 (hT ok.2.1 ok.2.2)⟩
    · intro v e _
      have e2 : v = nI n := (Value.int.inj e).symm
      rw [e2]
      have e3 : gal (mkept (sal (kept σ n (iZ T.1) T.2.1 T.2.2) 45 0 (nI n).toInt64) n (iZ T.1) T.2.1 T.2.2) 45 = gal (sal (kept σ n (iZ T.1) T.2.1 T.2.2) 45 0 (nI n).toInt64) 45 := rfl
      rw [e3, gal_o]
    · intro v e
      exact absurd e (by intro z; cases z)
  · have hx : Clx (d + 10) cm aC σ (.inr 3) σ := by
      apply Clx_of
      intro rv f
      have t := hC rv f
      unfold addQ addS at t
      rw [if_neg ok, if_neg ok] at t
      exact t
    have hm : Mr (d + 11) mm aM σ (.int 0) σ cc := by
      apply Mr_of
      intro nv sd g
      have t := hM _ (MD_K (nv := nv) (sd := sd) (g := g) h.2.2.1)
      obtain ⟨v1, v2, v3⟩ := ma_bad (n := n) (T := T) (c := cc) (σ := KS σ nv sd g) ok
      rw [v1, v2, v3] at t
      exact t
    exact ⟨_, _, cc, _, ⟨_, rfl⟩, wx hx, hm, fun _ _ e => absurd e hcc, fun _ _ e => absurd e hcc, h.2.2.2.1, h.2.2.2.2, _, _, _, _, h⟩
theorem cs_i {r : Int32} (h : LI σ n sg P Q xs N) (hC : ∀ rv f, Cl (d + 10) cm aC (ZS σ rv f) (.inl (some (.int r))) (ZS σ rv f)) (hM : ∀ τ, MD τ n sg P Q → Ml (d + 11) mm aM τ (.int r) τ 0)
    (wok : ∀ {r : Int32} {τ : St}, Clx (d + 10) cm aC σ (.inl (some (.int r))) τ → Wr (d + 11) w aW σ 0 (sal τ 45 0 r.toInt64)) : Cs d w mm aW aM isI σ xs N := by
  have hL := LI_out (v := r.toInt64) h
  have hm : Mr (d + 11) mm aM (sal σ 45 0 r.toInt64) (.int r) (sal σ 45 0 r.toInt64) 0 := Mr_of (fun nv sd g => hM _ (MD_K hL.2.2.1))
  refine ⟨_, _, 0, _, ⟨_, rfl⟩, wok (Clx_of hC), hm, ?_, ?_, hL.2.2.2.1, hL.2.2.2.2, _, _, _, _, hL⟩
  · intro v e _
    have e2 : v = r := (Value.int.inj e).symm
    rw [e2, gal_o]
  · intro v e
    exact absurd e (by intro z; cases z)
theorem cs_l {r : Int64} (h : LI σ n sg P Q xs N) (hC : ∀ rv f, Cl (d + 10) cm aC (ZS σ rv f) (.inl (some (.long r))) (ZS σ rv f)) (hM : ∀ τ, MD τ n sg P Q → Ml (d + 11) mm aM τ (.long r) τ 0)
    (wok : ∀ {r : Int64} {τ : St}, Clx (d + 10) cm aC σ (.inl (some (.long r))) τ → Wr (d + 11) w aW σ 0 (sal τ 45 0 r)) : Cs d w mm aW aM isJ σ xs N := by
  have hL := LI_out (v := r) h
  have hm : Mr (d + 11) mm aM (sal σ 45 0 r) (.long r) (sal σ 45 0 r) 0 := Mr_of (fun nv sd g => hM _ (MD_K hL.2.2.1))
  refine ⟨_, _, 0, _, ⟨_, rfl⟩, wok (Clx_of hC), hm, ?_, ?_, hL.2.2.2.1, hL.2.2.2.2, _, _, _, _, hL⟩
  · intro v e
    exact absurd e (by intro z; cases z)
  · intro v e _
    have e2 : v = r := (Value.long.inj e).symm
    rw [e2, gal_o]
theorem cs_x {x : Nat} {r : Value} {res : Value → Prop} (h : LI σ n sg P Q xs N) (hr : res r) (hC : ∀ rv f, Cl (d + 10) cm aC (ZS σ rv f) (.inr x) (ZS σ rv f)) (hM : ∀ τ, MD τ n sg P Q → Ml (d + 11) mm aM τ r τ cc)
    (wx : ∀ {τ : St}, Clx (d + 10) cm aC σ (.inr x) τ → Wr (d + 11) w aW σ cc τ) (hcc : cc ≠ 0) : Cs d w mm aW aM res σ xs N :=
  ⟨_, _, cc, _, hr, wx (Clx_of hC), Mr_of (fun nv sd g => hM _ (MD_K h.2.2.1)), fun _ _ e => absurd e hcc, fun _ _ e => absurd e hcc, h.2.2.2.1, h.2.2.2.2, _, _, _, _, h⟩
end
