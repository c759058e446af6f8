/-! the reference: its state -/
def FSc (σ : St) (f : Nat → Int32) : St := (fun a b => if a = 1 ∧ b ≠ 1 then f b else σ.1 a b, σ.2)
def ZS (σ : St) (rv : Nat → Nat) (f : Nat → Int32) : St := MS (FSc σ f) rv
theorem ZS_many (σ : St) (rv : Nat → Nat) (f : Nat → Int32) : gfi (ZS σ rv f) 1 1 = gfi σ 1 1 := by
  show (if (1 : Nat) = 1 ∧ (1 : Nat) ≠ 1 then f 1 else σ.1 1 1) = _
  rw [if_neg (fun c => c.2 rfl)]
  rfl
theorem ZS_get {σ : St} {rv : Nat → Nat} {f : Nat → Int32} {k : Nat} (h : k ≠ 1) : gfi (ZS σ rv f) 1 k = f k := by
  show (if (1 : Nat) = 1 ∧ k ≠ 1 then f k else σ.1 1 k) = _
  rw [if_pos ⟨rfl, h⟩]
theorem ZS_set {σ : St} {rv : Nat → Nat} {f : Nat → Int32} {k : Nat} {v : Int32} (h : k ≠ 1) : sfi (ZS σ rv f) 1 k v = ZS σ rv (upi f k v) := by
  unfold ZS MS
  rw [← sfi_sar]
  congr 1
  unfold sfi FSc upi
  simp only
  congr 1
  funext a b
  by_cases c : a = 1 ∧ b = k
  · rw [if_pos c, if_pos ⟨c.1, by omega⟩, if_pos c.2]
  · rw [if_neg c]
    by_cases c2 : a = 1 ∧ b ≠ 1
    · rw [if_pos c2, if_pos c2, if_neg (fun e => c ⟨c2.1, e⟩)]
    · rw [if_neg c2, if_neg c2]
theorem ZS_setm {σ : St} {rv : Nat → Nat} {f : Nat → Int32} {v : Int32} : sfi (ZS σ rv f) 1 1 v = ZS (sfi σ 1 1 v) rv f := by
  unfold ZS MS
  rw [← sfi_sar]
  congr 1
  unfold sfi FSc
  simp only
  congr 1
  funext a b
  by_cases c : a = 1 ∧ b = 1
  · rw [if_pos c, if_neg (fun e => e.2 c.2), if_pos c]
  · rw [if_neg c]
    by_cases c2 : a = 1 ∧ b ≠ 1
    · rw [if_pos c2, if_pos c2]
    · rw [if_neg c2, if_neg c2, if_neg c]
theorem ZS_ai (σ : St) (rv : Nat → Nat) (f : Nat → Int32) : gai (ZS σ rv f) = gai σ := rfl
theorem ZS_al {σ : St} {rv : Nat → Nat} {f : Nat → Int32} {a : Nat} (h : a ≠ 44) : gal (ZS σ rv f) a = gal σ a := by
  unfold ZS MS
  rw [gal_sar, if_neg h]
  rfl
theorem ZS_sai (σ : St) (rv : Nat → Nat) (f : Nat → Int32) (i j : Nat) (v : Int32) : sai (ZS σ rv f) i j v = ZS (sai σ i j v) rv f := rfl
theorem ZS_sar {σ : St} {rv : Nat → Nat} {f : Nat → Int32} {a : Nat} {g : Nat → Int64} (h : a ≠ 44) : sar (ZS σ rv f) a g = ZS (sar σ a g) rv f := by
  unfold ZS MS sar FSc
  simp only
  congr 4
  funext x
  by_cases c : x = a
  · rw [if_pos c, if_neg (by omega), if_pos c]
  · rw [if_neg c]
    by_cases c2 : x = 44
    · rw [if_pos c2, if_pos c2]
    · rw [if_neg c2, if_neg c2, if_neg c]
section
variable {d r a b c q e : Nat} {σ : St} {rv : Nat → Nat} {f : Nat → Int32}
theorem z_zero (hr : r < 16) (hB : BM rv) : Er (d + 1) 79 (0, ent 79 [.ref 1, .int (nI r)], [], ZS σ rv f) (.inl none, ZS σ (up rv r 0) f, 0) := m_zero (σ := FSc σ f) hr hB
theorem z_set {n : Nat} (hr : r < 16) (hB : BM rv) (hn : n < 2 ^ 64) : Er (d + 2) 78 (0, ent 78 [.ref 1, .int (nI r), .long (lN n)], [], ZS σ rv f) (.inl none, ZS σ (up rv r n) f, 0) := m_set (σ := FSc σ f) hr hB hn
theorem z_copy (ha : a < 16) (hb : b < 16) (hne : a ≠ b) (hB : BM rv) : Er (d + 1) 83 (0, ent 83 [.ref 1, .int (nI a), .int (nI b)], [], ZS σ rv f) (.inl none, ZS σ (up rv b (rv a)) f, 0) := m_copy (σ := FSc σ f) ha hb hne hB
theorem z_swap (ha : a < 16) (hb : b < 16) (hne : a ≠ b) (hB : BM rv) : Er (d + 1) 87 (0, ent 87 [.ref 1, .int (nI a), .int (nI b)], [], ZS σ rv f) (.inl none, ZS σ (up (up rv a (rv b)) b (rv a)) f, 0) := m_swap (σ := FSc σ f) ha hb hne hB
theorem z_isZ (hr : r < 16) (hB : BM rv) : Er (d + 1) 81 (0, ent 81 [.ref 1, .int (nI r)], [], ZS σ rv f) (.inl (some (.int (if rv r = 0 then 1 else 0))), ZS σ rv f, 0) := m_isZ (σ := FSc σ f) hr hB
theorem z_even (hr : r < 16) : Er (d + 1) 84 (0, ent 84 [.ref 1, .int (nI r)], [], ZS σ rv f) (.inl (some (.int (if rv r % 2 = 0 then 1 else 0))), ZS σ rv f, 0) := m_even (σ := FSc σ f) hr
theorem z_cmpM (ha : a < 16) (hb : b < 16) (hB : BM rv) : Er (d + 1) 86 (0, ent 86 [.ref 1, .int (nI a), .int (nI b)], [], ZS σ rv f) (.inl (some (.int (iZ (cz (rv a : Int) (rv b : Int))))), ZS σ rv f, 0) := m_cmpM (σ := FSc σ f) ha hb hB
theorem z_addM (ha : a < 16) (hb : b < 16) (hne : b ≠ a) (hB : BM rv) (hs : rv a + rv b < Bp 64) : Er (d + 1) 113 (0, ent 113 [.ref 1, .int (nI a), .int (nI b)], [], ZS σ rv f) (.inl none, ZS σ (up rv a (rv a + rv b)) f, 0) := m_addM (σ := FSc σ f) ha hb hne hB hs
theorem z_takeM (ha : a < 16) (hb : b < 16) (hne : b ≠ a) (hB : BM rv) (hs : rv b ≤ rv a) : Er (d + 1) 88 (0, ent 88 [.ref 1, .int (nI a), .int (nI b)], [], ZS σ rv f) (.inl none, ZS σ (up rv a (rv a - rv b)) f, 0) := m_takeM (σ := FSc σ f) ha hb hne hB hs
theorem z_times (ha : a < 16) (hb : b < 16) (hc : c < 16) (hac : a ≠ c) (hbc : b ≠ c) (hB : BM rv) (hs : rv a * rv b < Bp 64) : Er (d + 2) 108 (0, ent 108 [.ref 1, .int (nI a), .int (nI b), .int (nI c)], [], ZS σ rv f) (.inl none, ZS σ (up rv c (rv a * rv b)) f, 0) := m_times (σ := FSc σ f) ha hb hc hac hbc hB hs
theorem z_lenM (hr : r < 16) (hB : BM rv) : Er (d + 1) 91 (0, ent 91 [.ref 1, .int (nI r)], [], ZS σ rv f) (.inl (some (.int (nI (bln (rv r))))), ZS σ rv f, 0) := m_lenM (σ := FSc σ f) hr hB
theorem z_bit {i : Nat} (hr : r < 16) (hi : i < 2048) : Er (d + 1) 92 (0, ent 92 [.ref 1, .int (nI r), .int (nI i)], [], ZS σ rv f) (.inl (some (.long (lN (rv r / 2 ^ i % 2)))), ZS σ rv f, 0) := m_bit (σ := FSc σ f) hr hi
theorem z_half (hr : r < 16) (hB : BM rv) : Er (d + 1) 85 (0, ent 85 [.ref 1, .int (nI r)], [], ZS σ rv f) (.inl none, ZS σ (up rv r (rv r / 2)) f, 0) := m_half (σ := FSc σ f) hr hB
theorem z_up {n : Nat} (hr : r < 16) (hB : BM rv) (hn : n < 2048) (hs : rv r * 2 ^ n < Bp 64) : Er (d + 1) 89 (0, ent 89 [.ref 1, .int (nI r), .int (nI n)], [], ZS σ rv f) (.inl none, ZS σ (up rv r (rv r * 2 ^ n)) f, 0) := m_up (σ := FSc σ f) hr hB hn hs
theorem z_divM (ha : a < 16) (hb : b < 16) (hq : q < 16) (he : e < 16) (aq : a ≠ q) (ae : a ≠ e) (bq : b ≠ q) (be : b ≠ e) (qe : q ≠ e) (hB : BM rv) (hb0 : 0 < rv b) (hb63 : rv b < Bp 63) :
    Er (d + 2) 90 (0, ent 90 [.ref 1, .int (nI a), .int (nI b), .int (nI q), .int (nI e)], [], ZS σ rv f) (.inl none, ZS σ (up (up rv q (rv a / rv b)) e (rv a % rv b)) f, 0) := m_divM (σ := FSc σ f) ha hb hq he aq ae bq be qe hB hb0 hb63
theorem z_gcd (ha : a < 14) (hb : b < 14) (hB : BM rv) : ∃ x, x < Bp 64 ∧ Er (d + 2) 82 (0, ent 82 [.ref 1, .int (nI a), .int (nI b)], [], ZS σ rv f) (.inl none, ZS σ (up (up rv 14 (Nat.gcd (rv a) (rv b))) 15 x) f, 0) := m_gcd (σ := FSc σ f) ha hb hB
theorem zrd {k : Nat} (hr : r < 16) (hk : k < 64) : gal (ZS σ rv f) (fr 1 4) ((64 : Int32) * nI r + nI k).toNatClampNeg = lN (dg (rv r) k) := rdM hr hk
theorem zwr {k x : Nat} (hr : r < 16) (hk : k < 64) (hx : x < 4294967296) : sal (ZS σ rv f) (fr 1 4) ((64 : Int32) * nI r + nI k).toNatClampNeg (lN x) = ZS σ (up rv r (sd (rv r) k x)) f := wrM hr hk hx
end
def MD (σ : St) (n : Nat) (sg : Nat → Int) (P Q : Nat → Nat) : Prop := gfi σ 1 1 = nI n ∧ ∀ a, a < n → gai σ 42 a = iZ (sg a) ∧ (∀ k, k < 8 → gal σ 43 (16 * a + k) = lN (dg (P a) k)) ∧ (∀ k, k < 8 → gal σ 43 (16 * a + 8 + k) = lN (dg (Q a) k))
theorem isL43 : isL 43 := by unfold isL; omega
theorem Bp8_64 {x : Nat} (h : x < Bp 8) : x < Bp 64 := Nat.lt_of_lt_of_le h (Bp_le (by decide))
section
variable {d n r a : Nat} {σ : St} {rv : Nat → Nat} {f : Nat → Int32} {sg : Nat → Int} {P Q : Nat → Nat}
theorem z_loadP (hD : Db n sg P Q) (hM : MD σ n sg P Q) (ha : a < n) (hr : r < 16) (hB : BM rv) : Er (d + 2) 106 (0, ent 106 [.ref 1, .int (nI a), .int (nI r)], [], ZS σ rv f) (.inl none, ZS σ (up rv r (P a)) f, 0) := by
  have h60 := hD.1
  obtain ⟨hP, _⟩ := hD.2 a ha
  obtain ⟨_, h2, _⟩ := hM.2 a ha
  refine b106_0 k1 (z_zero hr hB) (b106_5 ?_)
  have loop : ∀ m k, k + m = 8 → Er (d + 2) 106 (7, [some (.ref 1), some (.int (nI a)), some (.int (nI r)), some (.int (nI k))], [], ZS σ (up rv r (P a % Bp k)) f) (.inl none, ZS σ (up rv r (P a)) f, 0) := by
    intro m
    induction m with
    | zero =>
      intro k hk
      rw [Nat.add_zero] at hk
      subst hk
      rw [Bp_mod hP]
      exact b106_7 (fun _ => b106_41) (fun z => absurd (Int32.le_refl _) z)
    | succ m ih =>
      intro k hk
      refine b106_7 (fun z => absurd z (nI_ge (b := 8) (by omega) (by decide))) (fun _ => ?_)
      have ei : (16 : Int32) * nI a + nI k = nI (16 * a + k) := by rw [show (16 : Int32) = nI 16 from rfl, pk_mul, nI_add]
      refine b106_13 k1 ⟨isL43, by rw [ei]; exact vp_in_nI (by show 16 * a + k < 960; omega) (by decide)⟩ (inM hr (by omega)) ?_
      have w := zwr (σ := σ) (f := f) (rv := up rv r (P a % Bp k)) (r := r) (k := k) (x := dg (P a) k) hr (by omega) (dg_lt _ _)
      rw [up_s, up_up] at w
      have e : sd (P a % Bp k) k (dg (P a) k) = P a % Bp (k + 1) := by
        unfold sd
        rw [dg_split, Nat.mod_mod, Nat.div_eq_of_lt (Nat.lt_of_lt_of_le (mod_lt_Bp _ k) (Bp_le (by omega))), Nat.zero_mul, Nat.add_zero]
      rw [ei, nI_32 (by omega), f13, ZS_al (by decide), h2 k (by omega), w, e, nI_1]
      exact ih (k + 1) (by omega)
  have := loop 8 0 (by omega)
  rw [Bp_0, Nat.mod_one] at this
  exact this
theorem z_loadQ (hD : Db n sg P Q) (hM : MD σ n sg P Q) (ha : a < n) (hr : r < 16) (hB : BM rv) : Er (d + 2) 107 (0, ent 107 [.ref 1, .int (nI a), .int (nI r)], [], ZS σ rv f) (.inl none, ZS σ (up rv r (Q a)) f, 0) := by
  have h60 := hD.1
  obtain ⟨_, hQ, _⟩ := hD.2 a ha
  obtain ⟨_, _, h3⟩ := hM.2 a ha
  refine b107_0 k1 (z_zero hr hB) (b107_5 ?_)
  have loop : ∀ m k, k + m = 8 → Er (d + 2) 107 (7, [some (.ref 1), some (.int (nI a)), some (.int (nI r)), some (.int (nI k))], [], ZS σ (up rv r (Q a % Bp k)) f) (.inl none, ZS σ (up rv r (Q a)) f, 0) := by
    intro m
    induction m with
    | zero =>
      intro k hk
      rw [Nat.add_zero] at hk
      subst hk
      rw [Bp_mod hQ]
      exact b107_7 (fun _ => b107_44) (fun z => absurd (Int32.le_refl _) z)
    | succ m ih =>
      intro k hk
      refine b107_7 (fun z => absurd z (nI_ge (b := 8) (by omega) (by decide))) (fun _ => ?_)
      have ei : (16 : Int32) * nI a + 8 + nI k = nI (16 * a + 8 + k) := by rw [show (16 : Int32) = nI 16 from rfl, pk_mul, show (8 : Int32) = nI 8 from rfl, nI_add, nI_add]
      refine b107_13 k1 ⟨isL43, by rw [ei]; exact vp_in_nI (by show 16 * a + 8 + k < 960; omega) (by decide)⟩ (inM hr (by omega)) ?_
      have w := zwr (σ := σ) (f := f) (rv := up rv r (Q a % Bp k)) (r := r) (k := k) (x := dg (Q a) k) hr (by omega) (dg_lt _ _)
      rw [up_s, up_up] at w
      have e : sd (Q a % Bp k) k (dg (Q a) k) = Q a % Bp (k + 1) := by
        unfold sd
        rw [dg_split, Nat.mod_mod, Nat.div_eq_of_lt (Nat.lt_of_lt_of_le (mod_lt_Bp _ k) (Bp_le (by omega))), Nat.zero_mul, Nat.add_zero]
      rw [ei, nI_32 (by omega), f13, ZS_al (by decide), h3 k (by omega), w, e, nI_1]
      exact ih (k + 1) (by omega)
  have := loop 8 0 (by omega)
  rw [Bp_0, Nat.mod_one] at this
  exact this
theorem z_fails {c : Int32} : Er (d + 1) 93 (0, ent 93 [.ref 1, .int c], [], ZS σ rv f) (.inl (some (.int 0)), ZS σ rv (upi f 0 c), 0) := by
  have t := b93_0 (d := d) (x0 := 1) (x1 := c) (σ := ZS σ rv f) ⟨by decide, rfl, rfl⟩
  rw [ZS_set (by decide)] at t
  exact t
def mkept (σ : St) (n : Nat) (s : Int32) (p q : Nat) : St := sfi (sar (sai σ 42 n s) 43 (gvw (gvw (gal σ 43) (16 * n) p) (16 * n + 8) q)) 1 1 (nI (n + 1))
theorem MD_kept {p q : Nat} {s : Int} (h : MD σ n sg P Q) : MD (mkept σ n (iZ s) p q) (n + 1) (upZ sg n s) (up P n p) (up Q n q) := by
  have gA : gai (mkept σ n (iZ s) p q) 42 = upd (gai σ 42) n (iZ s) := rfl
  have gL : gal (mkept σ n (iZ s) p q) 43 = gvw (gvw (gal σ 43) (16 * n) p) (16 * n + 8) q := rfl
  refine ⟨by unfold mkept; rw [gfi_sfi, if_pos ⟨rfl, rfl⟩], ?_⟩
  intro a ha
  rw [gA, gL]
  by_cases e : a = n
  · subst e
    refine ⟨?_, ?_, ?_⟩
    · rw [pk_us]
      unfold upZ
      rw [if_pos rfl]
    · intro k hk
      unfold gvw
      rw [if_neg (by omega), if_pos (by omega), up_s, show 16 * a + k - 16 * a = k by omega]
    · intro k hk
      unfold gvw
      rw [if_pos (by omega), up_s, show 16 * a + 8 + k - (16 * a + 8) = k by omega]
  · obtain ⟨h1, h2, h3⟩ := h.2 a (by omega)
    refine ⟨?_, ?_, ?_⟩
    · rw [pk_un e, h1]
      unfold upZ
      rw [if_neg e]
    · intro k hk
      unfold gvw
      rw [if_neg (by omega), if_neg (by omega), up_n e, h2 k hk]
    · intro k hk
      unfold gvw
      rw [if_neg (by omega), if_neg (by omega), up_n e, h3 k hk]
/-- what is made is kept -/
theorem z_make {s : Int} {c : Int32} {p q : Nat} (hn : gfi σ 1 1 = nI n) (h60 : n ≤ 60) (hB : BM rv) (e0 : rv 0 = p) (e1 : rv 1 = q) (hq0 : 0 < q) (hp : p < Bp 63) (hq : q < Bp 63) :
    ∃ rv2 f2, BM rv2 ∧ f2 0 = (if n < 60 ∧ bln (mk3 (s, p, q)).2.1 ≤ 256 ∧ bln (mk3 (s, p, q)).2.2 ≤ 256 then 0 else c) ∧ Er (d + 3) 80 (0, ent 80 [.ref 1, .int (iZ s), .int c], [], ZS σ rv f) (.inl (some (.int (if n < 60 ∧ bln (mk3 (s, p, q)).2.1 ≤ 256 ∧ bln (mk3 (s, p, q)).2.2 ≤ 256 then nI n else 0))), ZS (if n < 60 ∧ bln (mk3 (s, p, q)).2.1 ≤ 256 ∧ bln (mk3 (s, p, q)).2.2 ≤ 256 then mkept σ n (iZ (mk3 (s, p, q)).1) (mk3 (s, p, q)).2.1 (mk3 (s, p, q)).2.2 else σ) rv2 f2, 0) := by
  have b63 : Bp 63 ≤ Bp 64 := Bp_le (by decide)
  obtain ⟨G, eG⟩ : ∃ G, G = Nat.gcd p q := ⟨_, rfl⟩
  have hG0 : 0 < G := by rw [eG]; exact Nat.gcd_pos_of_pos_right _ hq0
  have hGq : G ≤ q := by rw [eG]; exact Nat.gcd_le_right _ hq0
  -- with the one that a nought has below it
  obtain ⟨q1, hq1⟩ : ∃ q1, q1 = if p = 0 then 1 else q := ⟨_, rfl⟩
  have hq1p : 0 < q1 := by rw [hq1]; split <;> omega
  have hq1B : q1 < Bp 63 := by
    rw [hq1]
    split
    · exact Nat.one_lt_two_pow (by decide)
    · exact hq
  obtain ⟨rv1, h1⟩ : ∃ rv1, rv1 = up rv 1 q1 := ⟨_, rfl⟩
  have B1 : BM rv1 := by rw [h1]; exact BM_up hB (by omega)
  have w0 : rv1 0 = p := by rw [h1, up_n (by decide), e0]
  have w1 : rv1 1 = q1 := by rw [h1, up_s]
  obtain ⟨G1, eG1⟩ : ∃ G1, G1 = Nat.gcd p q1 := ⟨_, rfl⟩
  have hG1 : 0 < G1 := by rw [eG1]; exact Nat.gcd_pos_of_pos_right _ hq1p
  have hG1q : G1 ≤ q1 := by rw [eG1]; exact Nat.gcd_le_right _ hq1p
  have eT : mk3 (s, p, q) = (if p = 0 then 0 else s, p / G1, q1 / G1) := by
    unfold mk3
    simp only
    by_cases z : p = 0
    · rw [if_pos z] at hq1
      rw [if_pos z, eG1, hq1, z, Nat.gcd_one_right, Nat.zero_div, Nat.zero_div, Nat.gcd_zero_left, Nat.div_self hq0]
    · rw [if_neg z] at hq1
      rw [if_neg z, eG1, hq1]
  have start : ∀ {k : Rs}, Er (d + 3) 80 (14, [some (.ref 1), some (.int (iZ s)), some (.int c), none], [], ZS σ rv1 f) k → Er (d + 3) 80 (0, ent 80 [.ref 1, .int (iZ s), .int c], [], ZS σ rv f) k := by
    intro k hk
    have t := z_isZ (d := d + 1) (σ := σ) (rv := rv) (f := f) (r := 0) (by decide) hB
    rw [e0] at t
    refine b80_0 k1 t ?_
    by_cases z : p = 0
    · rw [if_pos z]
      rw [if_pos z] at hq1
      have t2 := z_set (d := d) (σ := σ) (rv := rv) (f := f) (r := 1) (n := 1) (by decide) hB (by decide)
      rw [h1, hq1] at hk
      exact b80_5 (fun y => absurd y (by decide)) (fun _ => b80_8 k1 t2 hk)
    · rw [if_neg z]
      rw [if_neg z, ← e1] at hq1
      rw [h1, hq1, up_self] at hk
      exact b80_5 (fun _ => hk) (fun y => absurd rfl y)
  obtain ⟨x, hx, t3⟩ := z_gcd (d := d) (σ := σ) (rv := rv1) (f := f) (a := 0) (b := 1) (by decide) (by decide) B1
  rw [w0, w1, ← eG1] at t3
  have G64 : G1 < Bp 64 := by omega
  have B2 : BM (up (up rv1 14 G1) 15 x) := BM_up (BM_up B1 G64) hx
  have t4 := z_copy (d := d + 1) (σ := σ) (rv := up (up rv1 14 G1) 15 x) (f := f) (a := 14) (b := 13) (by decide) (by decide) (by decide) B2
  rw [up_n (i := 15) (j := 14) (by decide), up_s] at t4
  obtain ⟨rv3, h3⟩ : ∃ rv3, rv3 = up (up (up rv1 14 G1) 15 x) 13 G1 := ⟨_, rfl⟩
  rw [← h3] at t4
  have B3 : BM rv3 := by rw [h3]; exact BM_up B2 G64
  have u0 : rv3 0 = p := by rw [h3, up_n (by decide), up_n (by decide), up_n (by decide), w0]
  have u1 : rv3 1 = q1 := by rw [h3, up_n (by decide), up_n (by decide), up_n (by decide), w1]
  have u13 : rv3 13 = G1 := by rw [h3, up_s]
  have t5 := z_divM (d := d) (σ := σ) (rv := rv3) (f := f) (a := 0) (b := 13) (q := 12) (e := 11) (by decide) (by decide) (by decide) (by decide) (by decide) (by decide) (by decide) (by decide) (by decide) B3 (by rw [u13]; exact hG1) (by rw [u13]; omega)
  rw [u0, u13] at t5
  have pG : p / G1 < Bp 64 := Nat.lt_of_le_of_lt (Nat.div_le_self _ _) (by omega)
  have pm : p % G1 < Bp 64 := Nat.lt_of_le_of_lt (Nat.mod_le _ _) (by omega)
  have B5 : BM (up (up rv3 12 (p / G1)) 11 (p % G1)) := BM_up (BM_up B3 pG) pm
  have t6 := z_copy (d := d + 1) (σ := σ) (rv := up (up rv3 12 (p / G1)) 11 (p % G1)) (f := f) (a := 12) (b := 0) (by decide) (by decide) (by decide) B5
  rw [up_n (i := 11) (j := 12) (by decide), up_s] at t6
  obtain ⟨rv6, h6⟩ : ∃ rv6, rv6 = up (up (up rv3 12 (p / G1)) 11 (p % G1)) 0 (p / G1) := ⟨_, rfl⟩
  rw [← h6] at t6
  have B6 : BM rv6 := by rw [h6]; exact BM_up B5 pG
  have y1 : rv6 1 = q1 := by rw [h6, up_n (by decide), up_n (by decide), up_n (by decide), u1]
  have y13 : rv6 13 = G1 := by rw [h6, up_n (by decide), up_n (by decide), up_n (by decide), u13]
  have y0 : rv6 0 = p / G1 := by rw [h6, up_s]
  have t7 := z_divM (d := d) (σ := σ) (rv := rv6) (f := f) (a := 1) (b := 13) (q := 12) (e := 11) (by decide) (by decide) (by decide) (by decide) (by decide) (by decide) (by decide) (by decide) (by decide) B6 (by rw [y13]; exact hG1) (by rw [y13]; omega)
  rw [y1, y13] at t7
  have qG : q1 / G1 < Bp 64 := Nat.lt_of_le_of_lt (Nat.div_le_self _ _) (by omega)
  have qm : q1 % G1 < Bp 64 := Nat.lt_of_le_of_lt (Nat.mod_le _ _) (by omega)
  have B7 : BM (up (up rv6 12 (q1 / G1)) 11 (q1 % G1)) := BM_up (BM_up B6 qG) qm
  have t8 := z_copy (d := d + 1) (σ := σ) (rv := up (up rv6 12 (q1 / G1)) 11 (q1 % G1)) (f := f) (a := 12) (b := 1) (by decide) (by decide) (by decide) B7
  rw [up_n (i := 11) (j := 12) (by decide), up_s] at t8
  obtain ⟨rv8, h8⟩ : ∃ rv8, rv8 = up (up (up rv6 12 (q1 / G1)) 11 (q1 % G1)) 1 (q1 / G1) := ⟨_, rfl⟩
  rw [← h8] at t8
  have B8 : BM rv8 := by rw [h8]; exact BM_up B7 qG
  have s0 : rv8 0 = p / G1 := by rw [h8, up_n (by decide), up_n (by decide), up_n (by decide), y0]
  have s1 : rv8 1 = q1 / G1 := by rw [h8, up_s]
  have mid : ∀ {k : Rs}, Er (d + 3) 80 (64, [some (.ref 1), some (.int (iZ s)), some (.int c), none], [], ZS σ rv8 f) k → Er (d + 3) 80 (0, ent 80 [.ref 1, .int (iZ s), .int c], [], ZS σ rv f) k := by
    intro k hk
    exact start (b80_14 k1 t3 (b80_20 k1 t4 (b80_28 k1 t5 (b80_39 k1 t6 (b80_46 k1 t7 (b80_57 k1 t8 hk))))))
  obtain ⟨P1, eP1⟩ : ∃ P1, P1 = p / G1 := ⟨_, rfl⟩
  obtain ⟨Q1, eQ1⟩ : ∃ Q1, Q1 = q1 / G1 := ⟨_, rfl⟩
  rw [eT]
  simp only
  rw [← eP1, ← eQ1]
  rw [← eP1] at s0 pG
  rw [← eQ1] at s1 qG
  have lP := z_lenM (d := d + 1) (σ := σ) (rv := rv8) (f := f) (r := 0) (by decide) B8
  have lQ := z_lenM (d := d + 1) (σ := σ) (rv := rv8) (f := f) (r := 1) (by decide) B8
  rw [s0] at lP
  rw [s1] at lQ
  have bP : bln P1 ≤ 2048 := bln_le.mpr pG
  have bQ : bln Q1 ≤ 2048 := bln_le.mpr qG
  have gm : gfi (ZS σ rv8 f) 1 1 = nI n := by rw [ZS_many]; exact hn
  by_cases ok : n < 60 ∧ bln P1 ≤ 256 ∧ bln Q1 ≤ 256
  · rw [if_pos ok, if_pos ok, if_pos ok]
    obtain ⟨ok1, ok2, ok3⟩ := ok
    -- kept
    obtain ⟨s9, hs9⟩ : ∃ s9 : Int32, s9 = iZ (if p = 0 then 0 else s) := ⟨_, rfl⟩
    rw [← hs9]
    have hP8 : P1 < Bp 8 := b256.mp ok2
    have hQ8 : Q1 < Bp 8 := b256.mp ok3
    have hp0 : P1 = 0 ↔ p = 0 := by
      rw [eP1]
      constructor
      · intro z
        rw [Nat.div_eq_zero_iff] at z
        rcases z with z | z
        · omega
        · have hd : G1 ∣ p := by rw [eG1]; exact Nat.gcd_dvd_left _ _
          rcases Nat.eq_zero_or_pos p with w | w
          · exact w
          · have := Nat.le_of_dvd w hd
            omega
      · intro z
        rw [z, Nat.zero_div]
    have wr8 : ∀ m k, k + m = 8 → Er (d + 3) 80 (130, [some (.ref 1), some (.int (iZ s)), some (.int c), some (.int (nI k))], [], ZS (sar (sai σ 42 n s9) 43 (fun j => if 16 * n ≤ j ∧ j < 16 * n + k then lN (dg P1 (j - 16 * n)) else if 16 * n + 8 ≤ j ∧ j < 16 * n + 8 + k then lN (dg Q1 (j - (16 * n + 8))) else gal σ 43 j)) rv8 (upi f 0 0)) (.inl (some (.int (nI n))), ZS (mkept σ n s9 P1 Q1) rv8 (upi f 0 0), 0) := by
      intro m
      induction m with
      | zero =>
        intro k hk
        rw [Nat.add_zero] at hk
        subst hk
        refine b80_130 (fun _ => ?_) (fun z => absurd (Int32.le_refl _) z)
        have ef : (fun j => if 16 * n ≤ j ∧ j < 16 * n + 8 then lN (dg P1 (j - 16 * n)) else if 16 * n + 8 ≤ j ∧ j < 16 * n + 8 + 8 then lN (dg Q1 (j - (16 * n + 8))) else gal σ 43 j) = gvw (gvw (gal σ 43) (16 * n) P1) (16 * n + 8) Q1 := by
          funext j
          unfold gvw
          by_cases c1 : 16 * n ≤ j ∧ j < 16 * n + 8
          · rw [if_pos c1, if_neg (by omega), if_pos c1]
          · rw [if_neg c1]
            by_cases c2 : 16 * n + 8 ≤ j ∧ j < 16 * n + 8 + 8
            · rw [if_pos c2, if_pos c2]
            · rw [if_neg c2, if_neg c2, if_neg c1]
        rw [ef]
        have t := b80_188 (d := d + 2) (x0 := 1) (x1 := iZ s) (x2 := c) (x3 := nI 8) (σ := ZS (sar (sai σ 42 n s9) 43 (gvw (gvw (gal σ 43) (16 * n) P1) (16 * n + 8) Q1)) rv8 (upi f 0 0)) k1 ⟨by decide, rfl, rfl⟩
        have g1 : gfi (ZS (sar (sai σ 42 n s9) 43 (gvw (gvw (gal σ 43) (16 * n) P1) (16 * n + 8) Q1)) rv8 (upi f 0 0)) 1 1 = nI n := by rw [ZS_many]; exact hn
        rw [g1, nI_1, ZS_setm, ZS_many, gfi_sfi, if_pos ⟨rfl, rfl⟩, nI_pred] at t
        exact t
      | succ m ih =>
        intro k hk
        refine b80_130 (fun z => absurd z (nI_ge (b := 8) (by omega) (by decide))) (fun _ => ?_)
        obtain ⟨F, hF⟩ : ∃ F : Nat → Int64, F = fun j => if 16 * n ≤ j ∧ j < 16 * n + k then lN (dg P1 (j - 16 * n)) else if 16 * n + 8 ≤ j ∧ j < 16 * n + 8 + k then lN (dg Q1 (j - (16 * n + 8))) else gal σ 43 j := ⟨_, rfl⟩
        rw [← hF]
        have g1 : ∀ τ : St, gfi τ 1 1 = nI n → gfi (ZS τ rv8 (upi f 0 0)) 1 1 = nI n := fun τ h => by rw [ZS_many]; exact h
        have n1 : gfi (ZS (sar (sai σ 42 n s9) 43 F) rv8 (upi f 0 0)) 1 1 = nI n := g1 _ hn
        have i1 : (16 : Int32) * nI n + nI k = nI (16 * n + k) := by rw [show (16 : Int32) = nI 16 from rfl, pk_mul, nI_add]
        have i2 : (16 : Int32) * nI n + 8 + nI k = nI (16 * n + 8 + k) := by rw [show (16 : Int32) = nI 16 from rfl, pk_mul, show (8 : Int32) = nI 8 from rfl, nI_add, nI_add]
        have i3 : nI k = (64 : Int32) * nI 0 + nI k := by rw [ix, Nat.mul_zero, Nat.zero_add]
        have i4 : (64 : Int32) + nI k = (64 : Int32) * nI 1 + nI k := by rw [ix, show (64 : Int32) = nI 64 from rfl, nI_add]
        have r0 : ∀ τ : St, gal (ZS τ rv8 (upi f 0 0)) (fr 1 4) (nI k).toNatClampNeg = lN (dg P1 k) := by
          intro τ
          have := zrd (σ := τ) (f := upi f 0 0) (rv := rv8) (r := 0) (k := k) (by decide) (by omega)
          rw [← i3, s0] at this
          exact this
        have r1 : ∀ τ : St, gal (ZS τ rv8 (upi f 0 0)) (fr 1 4) ((64 : Int32) + nI k).toNatClampNeg = lN (dg Q1 k) := by
          intro τ
          have := zrd (σ := τ) (f := upi f 0 0) (rv := rv8) (r := 1) (k := k) (by decide) (by omega)
          rw [← i4, s1] at this
          exact this
        have sw : ∀ (τ : St) (j : Nat) (v : Int64), sal (ZS τ rv8 (upi f 0 0)) (fr 1 3) j v = ZS (sar τ 43 (vp_updL (gal τ 43) j v)) rv8 (upi f 0 0) := by
          intro τ j v
          unfold sal
          rw [f13, ZS_al (by decide), ZS_sar (by decide)]
        have m0 := inM (r := 0) (k := k) (by decide) (by omega)
        rw [← i3] at m0
        have m1 := inM (r := 1) (k := k) (by decide) (by omega)
        rw [← i4] at m1
        have n2 : gfi (sal (ZS (sar (sai σ 42 n s9) 43 F) rv8 (upi f 0 0)) (fr 1 3) (nI (16 * n + k)).toNatClampNeg (gal (ZS (sar (sai σ 42 n s9) 43 F) rv8 (upi f 0 0)) (fr 1 4) (nI k).toNatClampNeg)) 1 1 = nI n := by
          rw [sw]
          exact g1 _ hn
        refine b80_136 k1 m0 ⟨isL43, by rw [n1, i1]; exact vp_in_nI (by show 16 * n + k < 960; omega) (by decide)⟩ m1 ⟨isL43, by rw [n1, i1, n2, i2]; exact vp_in_nI (by show 16 * n + 8 + k < 960; omega) (by decide)⟩ ?_
        rw [n1, i1, n2, i2, r0, sw, r1, sw, nI_32 (by omega), nI_32 (by omega), nI_1]
        have nxt := ih (k + 1) (by omega)
        have ef : sar (sar (sar (sai σ 42 n s9) 43 F) 43 (vp_updL (gal (sar (sai σ 42 n s9) 43 F) 43) (16 * n + k) (lN (dg P1 k)))) 43 (vp_updL (gal (sar (sar (sai σ 42 n s9) 43 F) 43 (vp_updL (gal (sar (sai σ 42 n s9) 43 F) 43) (16 * n + k) (lN (dg P1 k)))) 43) (16 * n + 8 + k) (lN (dg Q1 k))) = sar (sai σ 42 n s9) 43 (fun j => if 16 * n ≤ j ∧ j < 16 * n + (k + 1) then lN (dg P1 (j - 16 * n)) else if 16 * n + 8 ≤ j ∧ j < 16 * n + 8 + (k + 1) then lN (dg Q1 (j - (16 * n + 8))) else gal σ 43 j) := by
          rw [gal_sar, if_pos rfl, gal_sar, if_pos rfl, sar_sar, sar_sar]
          congr 1
          funext j
          unfold vp_updL
          rw [hF]
          by_cases c1 : j = 16 * n + 8 + k
          · subst c1
            rw [if_pos rfl, if_neg (by omega), if_pos (by omega), show 16 * n + 8 + k - (16 * n + 8) = k by omega]
          · rw [if_neg c1]
            by_cases c2 : j = 16 * n + k
            · subst c2
              rw [if_pos rfl, if_pos (by omega), show 16 * n + k - 16 * n = k by omega]
            · rw [if_neg c2]
              show (if 16 * n ≤ j ∧ j < 16 * n + k then lN (dg P1 (j - 16 * n)) else if 16 * n + 8 ≤ j ∧ j < 16 * n + 8 + k then lN (dg Q1 (j - (16 * n + 8))) else gal σ 43 j) = _
              by_cases c3 : 16 * n ≤ j ∧ j < 16 * n + k
              · rw [if_pos c3, if_pos (by omega)]
              · rw [if_neg c3, if_neg (show ¬ (16 * n ≤ j ∧ j < 16 * n + (k + 1)) by omega)]
                by_cases c4 : 16 * n + 8 ≤ j ∧ j < 16 * n + 8 + k
                · rw [if_pos c4, if_pos (by omega)]
                · rw [if_neg c4, if_neg (by omega)]
        rw [ef]
        exact nxt
    have w8 := wr8 8 0 (by omega)
    have ef0 : sar (sai σ 42 n s9) 43 (fun j => if 16 * n ≤ j ∧ j < 16 * n + 0 then lN (dg P1 (j - 16 * n)) else if 16 * n + 8 ≤ j ∧ j < 16 * n + 8 + 0 then lN (dg Q1 (j - (16 * n + 8))) else gal σ 43 j) = sai σ 42 n s9 := by
      have : (fun j => if 16 * n ≤ j ∧ j < 16 * n + 0 then lN (dg P1 (j - 16 * n)) else if 16 * n + 8 ≤ j ∧ j < 16 * n + 8 + 0 then lN (dg Q1 (j - (16 * n + 8))) else gal σ 43 j) = gal (sai σ 42 n s9) 43 := by
        funext j
        rw [if_neg (by omega), if_neg (by omega)]
        rfl
      rw [this]
      obtain ⟨a1, a2, a3, a4, a5⟩ := σ
      unfold sar gal sai
      simp only
      congr 4
      funext x
      by_cases hx : x = 43
      · rw [if_pos hx, hx]
      · rw [if_neg hx]
    rw [ef0] at w8
    refine ⟨rv8, upi f 0 0, B8, upi_s _ _ _, mid (b80_64 k1 (fun z => ?_) (fun _ => b80_73 k1 lP (b80_78 (fun z => ?_) (fun _ => b80_84 k1 lQ (b80_89 (fun _ => ?_) (fun z => ?_))))))⟩
    · rw [gm] at z
      have := (nI_eq (b := 60) (by omega) (by decide)).mp z
      omega
    · have := (nI_ltI (a := 256) (by decide) (by omega)).mp z
      omega
    · have tz := z_isZ (d := d + 1) (σ := σ) (rv := rv8) (f := upi f 0 0) (r := 0) (by decide) B8
      rw [s0] at tz
      have es : sfi (ZS σ rv8 f) 1 0 0 = ZS σ rv8 (upi f 0 0) := ZS_set (by decide)
      have gm2 : gfi (sfi (ZS σ rv8 f) 1 0 0) 1 1 = nI n := by rw [es, ZS_many]; exact hn
      refine b80_101 (r := if P1 = 0 then 1 else 0) (σ2 := ZS σ rv8 (upi f 0 0)) ⟨by decide, rfl, rfl⟩ k1 (by rw [es]; exact tz) ?_
      rw [gm2]
      have fin : Er (d + 3) 80 (127, [some (.ref 1), some (.int (iZ s)), some (.int c), none], [.int s9, .int (nI n), .ref (fr 1 2)], ZS σ rv8 (upi f 0 0)) (.inl (some (.int (nI n))), ZS (mkept σ n s9 P1 Q1) rv8 (upi f 0 0), 0) := by
        refine b80_127 ⟨Or.inr rfl, vp_in_nI (by show n < 60; omega) (by decide)⟩ ?_
        rw [f12, nI_32 (by omega), ZS_sai]
        exact w8
      by_cases z : p = 0
      · rw [if_pos (hp0.mpr z)]
        rw [if_pos z] at hs9
        rw [hs9] at fin ⊢
        exact b80_119 (fun y => absurd y (by decide)) (fun _ => b80_122 fin)
      · rw [if_neg (fun y => z (hp0.mp y))]
        rw [if_neg z] at hs9
        rw [hs9] at fin ⊢
        exact b80_119 (fun _ => b80_126 fin) (fun y => absurd rfl y)
    · exact absurd (nI_le (b := 256) ok3 (by decide)) z
  · rw [if_neg ok, if_neg ok, if_neg ok]
    have bad : Er (d + 3) 80 (95, [some (.ref 1), some (.int (iZ s)), some (.int c), none], [], ZS σ rv8 f) (.inl (some (.int 0)), ZS σ rv8 (upi f 0 c), 0) := b80_95 k1 z_fails b80_100
    refine ⟨rv8, upi f 0 c, B8, upi_s _ _ _, mid (b80_64 k1 (fun _ => bad) (fun z => b80_73 k1 lP (b80_78 (fun _ => bad) (fun y => b80_84 k1 lQ (b80_89 (fun w => ?_) (fun _ => bad))))))⟩
    exfalso
    apply ok
    rw [gm] at z
    have a1 : n ≠ 60 := fun e => z (by rw [e]; rfl)
    have a2 : bln P1 ≤ 256 := by
      apply Nat.le_of_not_lt
      intro e
      exact y (nI_lt (a := 256) e (by omega))
    have a3 : bln Q1 ≤ 256 := (nI_leI (b := 256) (by omega) (by decide)).mp w
    exact ⟨by omega, a2, a3⟩
end
