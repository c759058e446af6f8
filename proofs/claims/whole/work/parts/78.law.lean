/-! a turn of the law -/
theorem lin {i j N : Nat} (h : i + 6 ≤ N) (hN : N ≤ 3072) (hj : j < 6) : vp_in (nI i + nI j) N := by
  rw [nI_add]
  exact vp_in_nI (by omega) (by omega)
def LwS (d i pc : Nat) (σ σ2 : St) : Prop := ∀ o5 o6 o7 nv sd g rv f, Bd nv → BM rv → ∃ p5 p6 p7 nv2 sd2 g2 rv2 f2 c, Bd nv2 ∧ BM rv2 ∧ c ≤ 1 ∧ ∀ {q : Rs}, Er (d + 12) 181 (1381, [some (.ref 48), some (.ref 0), some (.ref 1), some (.ref 45), some (.int (nI i)), p5, p6, p7], [], KS (ZS σ2 rv2 f2) nv2 sd2 g2) q → Er (d + 12) 181 (pc, [some (.ref 48), some (.ref 0), some (.ref 1), some (.ref 45), some (.int (nI i)), o5, o6, o7], [], KS (ZS σ rv f) nv sd g) (q.1, q.2.1, c + q.2.2)
section
variable {d i : Nat} {σ σ1 σ2 : St} {xs : Nat → Int32} {cd : Int32}
theorem lw0 {r : Int32} (h6 : i + 6 ≤ gsl σ) (hN : gsl σ ≤ 3072) (hx : gai σ 48 = xs) (hx1 : gai σ1 48 = xs) (hg1 : gsl σ1 = gsl σ)
    (hW : Wr (d + 11) 167 [.ref 0, .long ((((xs (nI i + (1 : Int32)).toNatClampNeg).toInt64) <<< ((32 : Int32).toInt64 &&& 63)) ||| (((xs (nI i + (2 : Int32)).toNatClampNeg).toInt64) &&& (4294967295 : Int64))), .ref 45] σ cd σ1) (hM : Mr (d + 11) 76 [.ref 1, .long ((((xs (nI i + (1 : Int32)).toNatClampNeg).toInt64) <<< ((32 : Int32).toInt64 &&& 63)) ||| (((xs (nI i + (2 : Int32)).toNatClampNeg).toInt64) &&& (4294967295 : Int64)))] σ1 (.int r) σ2 cd) (ho : cd = 0 → gal σ2 45 0 = r.toInt64) : LwS d i 120 σ σ2 := by
  subst hx
  have h61 : i + 6 ≤ gsl σ1 := by rw [hg1]; exact h6
  have hN1 : gsl σ1 ≤ 3072 := by rw [hg1]; exact hN
  intro o5 o6 o7 nv sd g rv f hb hB
  obtain ⟨nv2, sd2, g2, c, hb2, hc, hw⟩ := hW nv sd g rv f hb
  rw [← hx1] at hM
  obtain ⟨rv2, f2, hB2, ht, hm⟩ := hM nv2 sd2 g2 rv f hB
  have oX : cd = 0 → gal (KS (ZS σ2 rv2 f2) nv2 sd2 g2) 45 (0 : Int32).toNatClampNeg = r.toInt64 := by
    intro z
    rw [KS_al (by decide), ZS_al (by decide)]
    exact ho z
  exact ⟨some (.int cd), some (.int r), o7, nv2, sd2, g2, rv2, f2, c, hb2, hB2, hc, fun hq => c181_120 (σ := KS (ZS σ rv f) nv sd g) (lin (j := 1) h6 hN (by decide)) (lin (j := 2) h6 hN (by decide)) hw (b181_147 (σ := KS (ZS σ1 rv f) nv2 sd2 g2) (lin (j := 1) h61 hN1 (by decide)) (lin (j := 2) h61 hN1 (by decide)) k1 hm (b181_175 k1 (z_thr (thr_X.trans ht)) (b181_181 (fun _ => b181_188 (fun _ => b181_205 hq) (fun z => b181_193 i45 (fun _ => b181_205 hq) (fun y => absurd (oX z) y))) (fun z => absurd rfl z))))⟩
theorem lw1 {r : Int32} (h6 : i + 6 ≤ gsl σ) (hN : gsl σ ≤ 3072) (hx : gai σ 48 = xs) (hx1 : gai σ1 48 = xs) (hg1 : gsl σ1 = gsl σ)
    (hW : Wr (d + 11) 168 [.ref 0, .long ((((xs (nI i + (1 : Int32)).toNatClampNeg).toInt64) <<< ((32 : Int32).toInt64 &&& 63)) ||| (((xs (nI i + (2 : Int32)).toNatClampNeg).toInt64) &&& (4294967295 : Int64))), .long ((((xs (nI i + (3 : Int32)).toNatClampNeg).toInt64) <<< ((32 : Int32).toInt64 &&& 63)) ||| (((xs (nI i + (4 : Int32)).toNatClampNeg).toInt64) &&& (4294967295 : Int64))), .ref 45] σ cd σ1) (hM : Mr (d + 11) 94 [.ref 1, .long ((((xs (nI i + (1 : Int32)).toNatClampNeg).toInt64) <<< ((32 : Int32).toInt64 &&& 63)) ||| (((xs (nI i + (2 : Int32)).toNatClampNeg).toInt64) &&& (4294967295 : Int64))), .long ((((xs (nI i + (3 : Int32)).toNatClampNeg).toInt64) <<< ((32 : Int32).toInt64 &&& 63)) ||| (((xs (nI i + (4 : Int32)).toNatClampNeg).toInt64) &&& (4294967295 : Int64)))] σ1 (.int r) σ2 cd) (ho : cd = 0 → gal σ2 45 0 = r.toInt64) : LwS d i 208 σ σ2 := by
  subst hx
  have h61 : i + 6 ≤ gsl σ1 := by rw [hg1]; exact h6
  have hN1 : gsl σ1 ≤ 3072 := by rw [hg1]; exact hN
  intro o5 o6 o7 nv sd g rv f hb hB
  obtain ⟨nv2, sd2, g2, c, hb2, hc, hw⟩ := hW nv sd g rv f hb
  rw [← hx1] at hM
  obtain ⟨rv2, f2, hB2, ht, hm⟩ := hM nv2 sd2 g2 rv f hB
  have oX : cd = 0 → gal (KS (ZS σ2 rv2 f2) nv2 sd2 g2) 45 (0 : Int32).toNatClampNeg = r.toInt64 := by
    intro z
    rw [KS_al (by decide), ZS_al (by decide)]
    exact ho z
  exact ⟨some (.int cd), some (.int r), o7, nv2, sd2, g2, rv2, f2, c, hb2, hB2, hc, fun hq => c181_208 (σ := KS (ZS σ rv f) nv sd g) (lin (j := 1) h6 hN (by decide)) (lin (j := 2) h6 hN (by decide)) (lin (j := 3) h6 hN (by decide)) (lin (j := 4) h6 hN (by decide)) hw (b181_257 (σ := KS (ZS σ1 rv f) nv2 sd2 g2) (lin (j := 1) h61 hN1 (by decide)) (lin (j := 2) h61 hN1 (by decide)) (lin (j := 3) h61 hN1 (by decide)) (lin (j := 4) h61 hN1 (by decide)) k1 hm (b181_307 k1 (z_thr (thr_X.trans ht)) (b181_313 (fun _ => b181_320 (fun _ => b181_337 hq) (fun z => b181_325 i45 (fun _ => b181_337 hq) (fun y => absurd (oX z) y))) (fun z => absurd rfl z))))⟩
theorem lw2 {r : Int32} (h6 : i + 6 ≤ gsl σ) (hN : gsl σ ≤ 3072) (hx : gai σ 48 = xs) (hx1 : gai σ1 48 = xs) (hg1 : gsl σ1 = gsl σ)
    (hW : Wr (d + 11) 169 [.ref 0, .long ((((xs (nI i + (1 : Int32)).toNatClampNeg).toInt64) <<< ((32 : Int32).toInt64 &&& 63)) ||| (((xs (nI i + (2 : Int32)).toNatClampNeg).toInt64) &&& (4294967295 : Int64))), .ref 45] σ cd σ1) (hM : Mr (d + 11) 95 [.ref 1, .long ((((xs (nI i + (1 : Int32)).toNatClampNeg).toInt64) <<< ((32 : Int32).toInt64 &&& 63)) ||| (((xs (nI i + (2 : Int32)).toNatClampNeg).toInt64) &&& (4294967295 : Int64)))] σ1 (.int r) σ2 cd) (ho : cd = 0 → gal σ2 45 0 = r.toInt64) : LwS d i 340 σ σ2 := by
  subst hx
  have h61 : i + 6 ≤ gsl σ1 := by rw [hg1]; exact h6
  have hN1 : gsl σ1 ≤ 3072 := by rw [hg1]; exact hN
  intro o5 o6 o7 nv sd g rv f hb hB
  obtain ⟨nv2, sd2, g2, c, hb2, hc, hw⟩ := hW nv sd g rv f hb
  rw [← hx1] at hM
  obtain ⟨rv2, f2, hB2, ht, hm⟩ := hM nv2 sd2 g2 rv f hB
  have oX : cd = 0 → gal (KS (ZS σ2 rv2 f2) nv2 sd2 g2) 45 (0 : Int32).toNatClampNeg = r.toInt64 := by
    intro z
    rw [KS_al (by decide), ZS_al (by decide)]
    exact ho z
  exact ⟨some (.int cd), some (.int r), o7, nv2, sd2, g2, rv2, f2, c, hb2, hB2, hc, fun hq => c181_340 (σ := KS (ZS σ rv f) nv sd g) (lin (j := 1) h6 hN (by decide)) (lin (j := 2) h6 hN (by decide)) hw (b181_367 (σ := KS (ZS σ1 rv f) nv2 sd2 g2) (lin (j := 1) h61 hN1 (by decide)) (lin (j := 2) h61 hN1 (by decide)) k1 hm (b181_395 k1 (z_thr (thr_X.trans ht)) (b181_401 (fun _ => b181_408 (fun _ => b181_425 hq) (fun z => b181_413 i45 (fun _ => b181_425 hq) (fun y => absurd (oX z) y))) (fun z => absurd rfl z))))⟩
theorem lw3 {r : Int32} (h6 : i + 6 ≤ gsl σ) (hN : gsl σ ≤ 3072) (hx : gai σ 48 = xs) (hx1 : gai σ1 48 = xs) (hg1 : gsl σ1 = gsl σ)
    (hW : Wr (d + 11) 170 [.ref 0, .int (xs (nI i + (1 : Int32)).toNatClampNeg), .int (xs (nI i + (2 : Int32)).toNatClampNeg), .int (xs (nI i + (3 : Int32)).toNatClampNeg), .ref 45] σ cd σ1) (hM : Mr (d + 11) 101 [.ref 1, .int (xs (nI i + (1 : Int32)).toNatClampNeg), .int (xs (nI i + (2 : Int32)).toNatClampNeg), .int (xs (nI i + (3 : Int32)).toNatClampNeg)] σ1 (.int r) σ2 cd) (ho : cd = 0 → gal σ2 45 0 = r.toInt64) : LwS d i 428 σ σ2 := by
  subst hx
  have h61 : i + 6 ≤ gsl σ1 := by rw [hg1]; exact h6
  have hN1 : gsl σ1 ≤ 3072 := by rw [hg1]; exact hN
  intro o5 o6 o7 nv sd g rv f hb hB
  obtain ⟨nv2, sd2, g2, c, hb2, hc, hw⟩ := hW nv sd g rv f hb
  rw [← hx1] at hM
  obtain ⟨rv2, f2, hB2, ht, hm⟩ := hM nv2 sd2 g2 rv f hB
  have oX : cd = 0 → gal (KS (ZS σ2 rv2 f2) nv2 sd2 g2) 45 (0 : Int32).toNatClampNeg = r.toInt64 := by
    intro z
    rw [KS_al (by decide), ZS_al (by decide)]
    exact ho z
  exact ⟨some (.int cd), some (.int r), o7, nv2, sd2, g2, rv2, f2, c, hb2, hB2, hc, fun hq => c181_428 (σ := KS (ZS σ rv f) nv sd g) (lin (j := 1) h6 hN (by decide)) (lin (j := 2) h6 hN (by decide)) (lin (j := 3) h6 hN (by decide)) hw (b181_451 (σ := KS (ZS σ1 rv f) nv2 sd2 g2) (lin (j := 1) h61 hN1 (by decide)) (lin (j := 2) h61 hN1 (by decide)) (lin (j := 3) h61 hN1 (by decide)) k1 hm (b181_475 k1 (z_thr (thr_X.trans ht)) (b181_481 (fun _ => b181_488 (fun _ => b181_505 hq) (fun z => b181_493 i45 (fun _ => b181_505 hq) (fun y => absurd (oX z) y))) (fun z => absurd rfl z))))⟩
theorem lw4 {r : Int32} (hW : Clx (d + 11) 37 [.ref 0] σ (.inl (some (.int r))) σ1) (hM : Mr (d + 11) 114 [.ref 1] σ1 (.int r) σ2 cd) : LwS d i 508 σ σ2 := by
  intro o5 o6 o7 nv sd g rv f hb hB
  obtain ⟨nv2, sd2, g2, c, hb2, hc, hw⟩ := hW nv sd g rv f hb
  obtain ⟨rv2, f2, hB2, ht, hm⟩ := hM nv2 sd2 g2 rv f hB
  exact ⟨o5, o6, o7, nv2, sd2, g2, rv2, f2, c, hb2, hB2, hc, fun hq => c181_508 k0 hw (b181_512 k1 hm (b181_516 (fun _ => hq) (fun z => absurd rfl z)))⟩
theorem lw5 {r : Int32} (hW : Clx (d + 11) 38 [.ref 0] σ (.inl (some (.int r))) σ1) (hM : Mr (d + 11) 115 [.ref 1] σ1 (.int r) σ2 cd) : LwS d i 521 σ σ2 := by
  intro o5 o6 o7 nv sd g rv f hb hB
  obtain ⟨nv2, sd2, g2, c, hb2, hc, hw⟩ := hW nv sd g rv f hb
  obtain ⟨rv2, f2, hB2, ht, hm⟩ := hM nv2 sd2 g2 rv f hB
  exact ⟨o5, o6, o7, nv2, sd2, g2, rv2, f2, c, hb2, hB2, hc, fun hq => c181_521 k0 hw (b181_525 k1 hm (b181_529 (fun _ => hq) (fun z => absurd rfl z)))⟩
theorem lw6 {r : Int64} (h6 : i + 6 ≤ gsl σ) (hN : gsl σ ≤ 3072) (hx : gai σ 48 = xs) (hx1 : gai σ1 48 = xs) (hg1 : gsl σ1 = gsl σ)
    (hW : Wr (d + 11) 171 [.ref 0, .int (xs (nI i + (1 : Int32)).toNatClampNeg), .int (xs (nI i + (2 : Int32)).toNatClampNeg), .ref 45] σ cd σ1) (hM : Mr (d + 11) 116 [.ref 1, .int (xs (nI i + (1 : Int32)).toNatClampNeg), .int (xs (nI i + (2 : Int32)).toNatClampNeg)] σ1 (.long r) σ2 cd) (ho : cd = 0 → gal σ2 45 0 = r) : LwS d i 534 σ σ2 := by
  subst hx
  have h61 : i + 6 ≤ gsl σ1 := by rw [hg1]; exact h6
  have hN1 : gsl σ1 ≤ 3072 := by rw [hg1]; exact hN
  intro o5 o6 o7 nv sd g rv f hb hB
  obtain ⟨nv2, sd2, g2, c, hb2, hc, hw⟩ := hW nv sd g rv f hb
  rw [← hx1] at hM
  obtain ⟨rv2, f2, hB2, ht, hm⟩ := hM nv2 sd2 g2 rv f hB
  have oX : cd = 0 → gal (KS (ZS σ2 rv2 f2) nv2 sd2 g2) 45 (0 : Int32).toNatClampNeg = r := by
    intro z
    rw [KS_al (by decide), ZS_al (by decide)]
    exact ho z
  exact ⟨some (.int cd), some (.long r), none, nv2, sd2, g2, rv2, f2, c, hb2, hB2, hc, fun hq => c181_534 (σ := KS (ZS σ rv f) nv sd g) (lin (j := 1) h6 hN (by decide)) (lin (j := 2) h6 hN (by decide)) hw (b181_551 (σ := KS (ZS σ1 rv f) nv2 sd2 g2) (lin (j := 1) h61 hN1 (by decide)) (lin (j := 2) h61 hN1 (by decide)) k1 hm (b181_569 k1 (z_thr (thr_X.trans ht)) (b181_575 (fun _ => b181_582 (fun _ => b181_598 hq) (fun z => b181_587 i45 (fun _ => b181_598 hq) (fun y => absurd (oX z) y))) (fun z => absurd rfl z))))⟩
theorem lw7 {r : Int32} (h6 : i + 6 ≤ gsl σ) (hN : gsl σ ≤ 3072) (hx : gai σ 48 = xs) (hx1 : gai σ1 48 = xs) (hg1 : gsl σ1 = gsl σ)
    (hW : Wr (d + 11) 172 [.ref 0, .int (xs (nI i + (1 : Int32)).toNatClampNeg), .ref 45] σ cd σ1) (hM : Mr (d + 11) 117 [.ref 1, .int (xs (nI i + (1 : Int32)).toNatClampNeg)] σ1 (.int r) σ2 cd) (ho : cd = 0 → gal σ2 45 0 = r.toInt64) : LwS d i 601 σ σ2 := by
  subst hx
  have h61 : i + 6 ≤ gsl σ1 := by rw [hg1]; exact h6
  have hN1 : gsl σ1 ≤ 3072 := by rw [hg1]; exact hN
  intro o5 o6 o7 nv sd g rv f hb hB
  obtain ⟨nv2, sd2, g2, c, hb2, hc, hw⟩ := hW nv sd g rv f hb
  rw [← hx1] at hM
  obtain ⟨rv2, f2, hB2, ht, hm⟩ := hM nv2 sd2 g2 rv f hB
  have oX : cd = 0 → gal (KS (ZS σ2 rv2 f2) nv2 sd2 g2) 45 (0 : Int32).toNatClampNeg = r.toInt64 := by
    intro z
    rw [KS_al (by decide), ZS_al (by decide)]
    exact ho z
  exact ⟨some (.int cd), some (.int r), o7, nv2, sd2, g2, rv2, f2, c, hb2, hB2, hc, fun hq => c181_601 (σ := KS (ZS σ rv f) nv sd g) (lin (j := 1) h6 hN (by decide)) hw (b181_612 (σ := KS (ZS σ1 rv f) nv2 sd2 g2) (lin (j := 1) h61 hN1 (by decide)) k1 hm (b181_624 k1 (z_thr (thr_X.trans ht)) (b181_630 (fun _ => b181_637 (fun _ => b181_654 hq) (fun z => b181_642 i45 (fun _ => b181_654 hq) (fun y => absurd (oX z) y))) (fun z => absurd rfl z))))⟩
theorem lw8 {r : Int32} (h6 : i + 6 ≤ gsl σ) (hN : gsl σ ≤ 3072) (hx : gai σ 48 = xs) (hx1 : gai σ1 48 = xs) (hg1 : gsl σ1 = gsl σ)
    (hW : Wr (d + 11) 173 [.ref 0, .int (xs (nI i + (1 : Int32)).toNatClampNeg), .int (if xs (nI i + (2 : Int32)).toNatClampNeg = 0 then 0 else 1), .ref 45] σ cd σ1) (hM : Mr (d + 11) 118 [.ref 1, .int (xs (nI i + (1 : Int32)).toNatClampNeg), .int (if xs (nI i + (2 : Int32)).toNatClampNeg = 0 then 0 else 1)] σ1 (.int r) σ2 cd) (ho : cd = 0 → gal σ2 45 0 = r.toInt64) : LwS d i 657 σ σ2 := by
  subst hx
  have h61 : i + 6 ≤ gsl σ1 := by rw [hg1]; exact h6
  have hN1 : gsl σ1 ≤ 3072 := by rw [hg1]; exact hN
  intro o5 o6 o7 nv sd g rv f hb hB
  obtain ⟨nv2, sd2, g2, c, hb2, hc, hw⟩ := hW nv sd g rv f hb
  rw [← hx1] at hM
  obtain ⟨rv2, f2, hB2, ht, hm⟩ := hM nv2 sd2 g2 rv f hB
  have oX : cd = 0 → gal (KS (ZS σ2 rv2 f2) nv2 sd2 g2) 45 (0 : Int32).toNatClampNeg = r.toInt64 := by
    intro z
    rw [KS_al (by decide), ZS_al (by decide)]
    exact ho z
  refine ⟨some (.int cd), some (.int r), o7, nv2, sd2, g2, rv2, f2, c, hb2, hB2, hc, ?_⟩
  intro q hq
  have fin : Er (d + 12) 181 (708, [some (.ref 48), some (.ref 0), some (.ref 1), some (.ref 45), some (.int (nI i)), some (.int cd), o6, o7], [.int r], KS (ZS σ2 rv2 f2) nv2 sd2 g2) q := b181_708 k1 (z_thr (thr_X.trans ht)) (b181_714 (fun _ => b181_721 (fun _ => b181_738 hq) (fun z => b181_726 i45 (fun _ => b181_738 hq) (fun y => absurd (oX z) y))) (fun z => absurd rfl z))
  by_cases z : gai σ 48 (nI i + (2 : Int32)).toNatClampNeg = 0
  · have z1 : gai σ1 48 (nI i + (2 : Int32)).toNatClampNeg = 0 := by rw [hx1]; exact z
    rw [if_pos z] at hw
    rw [if_pos z1] at hm
    exact b181_657 (lin (j := 1) h6 hN (by decide)) (lin (j := 2) h6 hN (by decide)) (fun _ => b181_677 (c181_678 hw (b181_682 (lin (j := 1) h61 hN1 (by decide)) (lin (j := 2) h61 hN1 (by decide)) (fun _ => b181_704 (b181_705 k1 hm fin)) (fun y => absurd z1 y)))) (fun y => absurd z y)
  · have z1 : ¬ gai σ1 48 (nI i + (2 : Int32)).toNatClampNeg = 0 := by rw [hx1]; exact z
    rw [if_neg z] at hw
    rw [if_neg z1] at hm
    exact b181_657 (lin (j := 1) h6 hN (by decide)) (lin (j := 2) h6 hN (by decide)) (fun y => absurd y z) (fun _ => b181_673 (c181_678 hw (b181_682 (lin (j := 1) h61 hN1 (by decide)) (lin (j := 2) h61 hN1 (by decide)) (fun y => absurd y z1) (fun _ => b181_700 (b181_705 k1 hm fin)))))
theorem lw9 {r : Int64} (h6 : i + 6 ≤ gsl σ) (hN : gsl σ ≤ 3072) (hx : gai σ 48 = xs) (hx1 : gai σ1 48 = xs) (hg1 : gsl σ1 = gsl σ)
    (hW : Wr (d + 11) 174 [.ref 0, .int (xs (nI i + (1 : Int32)).toNatClampNeg), .int (xs (nI i + (2 : Int32)).toNatClampNeg), .int (if xs (nI i + (3 : Int32)).toNatClampNeg = 0 then 0 else 1), .ref 45] σ cd σ1) (hM : Mr (d + 11) 119 [.ref 1, .int (xs (nI i + (1 : Int32)).toNatClampNeg), .int (xs (nI i + (2 : Int32)).toNatClampNeg), .int (if xs (nI i + (3 : Int32)).toNatClampNeg = 0 then 0 else 1)] σ1 (.long r) σ2 cd) (ho : cd = 0 → gal σ2 45 0 = r) : LwS d i 741 σ σ2 := by
  subst hx
  have h61 : i + 6 ≤ gsl σ1 := by rw [hg1]; exact h6
  have hN1 : gsl σ1 ≤ 3072 := by rw [hg1]; exact hN
  intro o5 o6 o7 nv sd g rv f hb hB
  obtain ⟨nv2, sd2, g2, c, hb2, hc, hw⟩ := hW nv sd g rv f hb
  rw [← hx1] at hM
  obtain ⟨rv2, f2, hB2, ht, hm⟩ := hM nv2 sd2 g2 rv f hB
  have oX : cd = 0 → gal (KS (ZS σ2 rv2 f2) nv2 sd2 g2) 45 (0 : Int32).toNatClampNeg = r := by
    intro z
    rw [KS_al (by decide), ZS_al (by decide)]
    exact ho z
  refine ⟨some (.int cd), some (.long r), none, nv2, sd2, g2, rv2, f2, c, hb2, hB2, hc, ?_⟩
  intro q hq
  have fin : Er (d + 12) 181 (804, [some (.ref 48), some (.ref 0), some (.ref 1), some (.ref 45), some (.int (nI i)), some (.int cd), o6, o7], [.long r], KS (ZS σ2 rv2 f2) nv2 sd2 g2) q := b181_804 k1 (z_thr (thr_X.trans ht)) (b181_810 (fun _ => b181_817 (fun _ => b181_833 hq) (fun z => b181_822 i45 (fun _ => b181_833 hq) (fun y => absurd (oX z) y))) (fun z => absurd rfl z))
  by_cases z : gai σ 48 (nI i + (3 : Int32)).toNatClampNeg = 0
  · have z1 : gai σ1 48 (nI i + (3 : Int32)).toNatClampNeg = 0 := by rw [hx1]; exact z
    rw [if_pos z] at hw
    rw [if_pos z1] at hm
    exact b181_741 (lin (j := 1) h6 hN (by decide)) (lin (j := 2) h6 hN (by decide)) (lin (j := 3) h6 hN (by decide)) (fun _ => b181_767 (c181_768 hw (b181_772 (lin (j := 1) h61 hN1 (by decide)) (lin (j := 2) h61 hN1 (by decide)) (lin (j := 3) h61 hN1 (by decide)) (fun _ => b181_800 (b181_801 k1 hm fin)) (fun y => absurd z1 y)))) (fun y => absurd z y)
  · have z1 : ¬ gai σ1 48 (nI i + (3 : Int32)).toNatClampNeg = 0 := by rw [hx1]; exact z
    rw [if_neg z] at hw
    rw [if_neg z1] at hm
    exact b181_741 (lin (j := 1) h6 hN (by decide)) (lin (j := 2) h6 hN (by decide)) (lin (j := 3) h6 hN (by decide)) (fun y => absurd y z) (fun _ => b181_763 (c181_768 hw (b181_772 (lin (j := 1) h61 hN1 (by decide)) (lin (j := 2) h61 hN1 (by decide)) (lin (j := 3) h61 hN1 (by decide)) (fun y => absurd y z1) (fun _ => b181_796 (b181_801 k1 hm fin)))))
theorem lw10 {r : Int32} (h6 : i + 6 ≤ gsl σ) (hN : gsl σ ≤ 3072) (hx : gai σ 48 = xs) (hx1 : gai σ1 48 = xs) (hg1 : gsl σ1 = gsl σ)
    (hW : Wr (d + 11) 175 [.ref 0, .int (xs (nI i + (1 : Int32)).toNatClampNeg), .int (xs (nI i + (2 : Int32)).toNatClampNeg), .ref 45] σ cd σ1) (hM : Mr (d + 11) 109 [.ref 1, .int (xs (nI i + (1 : Int32)).toNatClampNeg), .int (xs (nI i + (2 : Int32)).toNatClampNeg)] σ1 (.int r) σ2 cd) (ho : cd = 0 → gal σ2 45 0 = r.toInt64) : LwS d i 836 σ σ2 := by
  subst hx
  have h61 : i + 6 ≤ gsl σ1 := by rw [hg1]; exact h6
  have hN1 : gsl σ1 ≤ 3072 := by rw [hg1]; exact hN
  intro o5 o6 o7 nv sd g rv f hb hB
  obtain ⟨nv2, sd2, g2, c, hb2, hc, hw⟩ := hW nv sd g rv f hb
  rw [← hx1] at hM
  obtain ⟨rv2, f2, hB2, ht, hm⟩ := hM nv2 sd2 g2 rv f hB
  have oX : cd = 0 → gal (KS (ZS σ2 rv2 f2) nv2 sd2 g2) 45 (0 : Int32).toNatClampNeg = r.toInt64 := by
    intro z
    rw [KS_al (by decide), ZS_al (by decide)]
    exact ho z
  exact ⟨some (.int cd), some (.int r), o7, nv2, sd2, g2, rv2, f2, c, hb2, hB2, hc, fun hq => c181_836 (σ := KS (ZS σ rv f) nv sd g) (lin (j := 1) h6 hN (by decide)) (lin (j := 2) h6 hN (by decide)) hw (b181_853 (σ := KS (ZS σ1 rv f) nv2 sd2 g2) (lin (j := 1) h61 hN1 (by decide)) (lin (j := 2) h61 hN1 (by decide)) k1 hm (b181_871 k1 (z_thr (thr_X.trans ht)) (b181_877 (fun _ => b181_884 (fun _ => b181_901 hq) (fun z => b181_889 i45 (fun _ => b181_901 hq) (fun y => absurd (oX z) y))) (fun z => absurd rfl z))))⟩
theorem lw11 {r : Int32} (h6 : i + 6 ≤ gsl σ) (hN : gsl σ ≤ 3072) (hx : gai σ 48 = xs) (hx1 : gai σ1 48 = xs) (hg1 : gsl σ1 = gsl σ)
    (hW : Wr (d + 11) 176 [.ref 0, .int (xs (nI i + (1 : Int32)).toNatClampNeg), .long ((((xs (nI i + (2 : Int32)).toNatClampNeg).toInt64) <<< ((32 : Int32).toInt64 &&& 63)) ||| (((xs (nI i + (3 : Int32)).toNatClampNeg).toInt64) &&& (4294967295 : Int64))), .ref 45] σ cd σ1) (hM : Mr (d + 11) 120 [.ref 1, .int (xs (nI i + (1 : Int32)).toNatClampNeg), .long ((((xs (nI i + (2 : Int32)).toNatClampNeg).toInt64) <<< ((32 : Int32).toInt64 &&& 63)) ||| (((xs (nI i + (3 : Int32)).toNatClampNeg).toInt64) &&& (4294967295 : Int64)))] σ1 (.int r) σ2 cd) (ho : cd = 0 → gal σ2 45 0 = r.toInt64) : LwS d i 904 σ σ2 := by
  subst hx
  have h61 : i + 6 ≤ gsl σ1 := by rw [hg1]; exact h6
  have hN1 : gsl σ1 ≤ 3072 := by rw [hg1]; exact hN
  intro o5 o6 o7 nv sd g rv f hb hB
  obtain ⟨nv2, sd2, g2, c, hb2, hc, hw⟩ := hW nv sd g rv f hb
  rw [← hx1] at hM
  obtain ⟨rv2, f2, hB2, ht, hm⟩ := hM nv2 sd2 g2 rv f hB
  have oX : cd = 0 → gal (KS (ZS σ2 rv2 f2) nv2 sd2 g2) 45 (0 : Int32).toNatClampNeg = r.toInt64 := by
    intro z
    rw [KS_al (by decide), ZS_al (by decide)]
    exact ho z
  exact ⟨some (.int cd), some (.int r), o7, nv2, sd2, g2, rv2, f2, c, hb2, hB2, hc, fun hq => c181_904 (σ := KS (ZS σ rv f) nv sd g) (lin (j := 1) h6 hN (by decide)) (lin (j := 2) h6 hN (by decide)) (lin (j := 3) h6 hN (by decide)) hw (b181_937 (σ := KS (ZS σ1 rv f) nv2 sd2 g2) (lin (j := 1) h61 hN1 (by decide)) (lin (j := 2) h61 hN1 (by decide)) (lin (j := 3) h61 hN1 (by decide)) k1 hm (b181_971 k1 (z_thr (thr_X.trans ht)) (b181_977 (fun _ => b181_984 (fun _ => b181_1001 hq) (fun z => b181_989 i45 (fun _ => b181_1001 hq) (fun y => absurd (oX z) y))) (fun z => absurd rfl z))))⟩
theorem lw12 {r : Int64} (h6 : i + 6 ≤ gsl σ) (hN : gsl σ ≤ 3072) (hx : gai σ 48 = xs) (hx1 : gai σ1 48 = xs) (hg1 : gsl σ1 = gsl σ)
    (hW : Wr (d + 11) 177 [.ref 0, .int (xs (nI i + (1 : Int32)).toNatClampNeg), .int (xs (nI i + (2 : Int32)).toNatClampNeg), .ref 45] σ cd σ1) (hM : Mr (d + 11) 123 [.ref 1, .int (xs (nI i + (1 : Int32)).toNatClampNeg), .int (xs (nI i + (2 : Int32)).toNatClampNeg)] σ1 (.long r) σ2 cd) (ho : cd = 0 → gal σ2 45 0 = r) : LwS d i 1004 σ σ2 := by
  subst hx
  have h61 : i + 6 ≤ gsl σ1 := by rw [hg1]; exact h6
  have hN1 : gsl σ1 ≤ 3072 := by rw [hg1]; exact hN
  intro o5 o6 o7 nv sd g rv f hb hB
  obtain ⟨nv2, sd2, g2, c, hb2, hc, hw⟩ := hW nv sd g rv f hb
  rw [← hx1] at hM
  obtain ⟨rv2, f2, hB2, ht, hm⟩ := hM nv2 sd2 g2 rv f hB
  have oX : cd = 0 → gal (KS (ZS σ2 rv2 f2) nv2 sd2 g2) 45 (0 : Int32).toNatClampNeg = r := by
    intro z
    rw [KS_al (by decide), ZS_al (by decide)]
    exact ho z
  exact ⟨some (.int cd), some (.long r), none, nv2, sd2, g2, rv2, f2, c, hb2, hB2, hc, fun hq => c181_1004 (σ := KS (ZS σ rv f) nv sd g) (lin (j := 1) h6 hN (by decide)) (lin (j := 2) h6 hN (by decide)) hw (b181_1021 (σ := KS (ZS σ1 rv f) nv2 sd2 g2) (lin (j := 1) h61 hN1 (by decide)) (lin (j := 2) h61 hN1 (by decide)) k1 hm (b181_1039 k1 (z_thr (thr_X.trans ht)) (b181_1045 (fun _ => b181_1052 (fun _ => b181_1068 hq) (fun z => b181_1057 i45 (fun _ => b181_1068 hq) (fun y => absurd (oX z) y))) (fun z => absurd rfl z))))⟩
theorem lw13 {r : Int32} (h6 : i + 6 ≤ gsl σ) (hN : gsl σ ≤ 3072) (hx : gai σ 48 = xs) (hx1 : gai σ1 48 = xs) (hg1 : gsl σ1 = gsl σ)
    (hW : Wr (d + 11) 178 [.ref 0, .int (xs (nI i + (1 : Int32)).toNatClampNeg), .int (xs (nI i + (2 : Int32)).toNatClampNeg), .ref 45] σ cd σ1) (hM : Mr (d + 11) 128 [.ref 1, .int (xs (nI i + (1 : Int32)).toNatClampNeg), .int (xs (nI i + (2 : Int32)).toNatClampNeg)] σ1 (.int r) σ2 cd) (ho : cd = 0 → gal σ2 45 0 = r.toInt64) : LwS d i 1071 σ σ2 := by
  subst hx
  have h61 : i + 6 ≤ gsl σ1 := by rw [hg1]; exact h6
  have hN1 : gsl σ1 ≤ 3072 := by rw [hg1]; exact hN
  intro o5 o6 o7 nv sd g rv f hb hB
  obtain ⟨nv2, sd2, g2, c, hb2, hc, hw⟩ := hW nv sd g rv f hb
  rw [← hx1] at hM
  obtain ⟨rv2, f2, hB2, ht, hm⟩ := hM nv2 sd2 g2 rv f hB
  have oX : cd = 0 → gal (KS (ZS σ2 rv2 f2) nv2 sd2 g2) 45 (0 : Int32).toNatClampNeg = r.toInt64 := by
    intro z
    rw [KS_al (by decide), ZS_al (by decide)]
    exact ho z
  exact ⟨some (.int cd), some (.int r), o7, nv2, sd2, g2, rv2, f2, c, hb2, hB2, hc, fun hq => c181_1071 (σ := KS (ZS σ rv f) nv sd g) (lin (j := 1) h6 hN (by decide)) (lin (j := 2) h6 hN (by decide)) hw (b181_1088 (σ := KS (ZS σ1 rv f) nv2 sd2 g2) (lin (j := 1) h61 hN1 (by decide)) (lin (j := 2) h61 hN1 (by decide)) k1 hm (b181_1106 k1 (z_thr (thr_X.trans ht)) (b181_1112 (fun _ => b181_1119 (fun _ => b181_1136 hq) (fun z => b181_1124 i45 (fun _ => b181_1136 hq) (fun y => absurd (oX z) y))) (fun z => absurd rfl z))))⟩
theorem lw14 {r : Int64} (h6 : i + 6 ≤ gsl σ) (hN : gsl σ ≤ 3072) (hx : gai σ 48 = xs) (hx1 : gai σ1 48 = xs) (hg1 : gsl σ1 = gsl σ)
    (hW : Wr (d + 11) 179 [.ref 0, .int (xs (nI i + (1 : Int32)).toNatClampNeg), .long ((((xs (nI i + (2 : Int32)).toNatClampNeg).toInt64) <<< ((32 : Int32).toInt64 &&& 63)) ||| (((xs (nI i + (3 : Int32)).toNatClampNeg).toInt64) &&& (4294967295 : Int64))), .long ((((xs (nI i + (4 : Int32)).toNatClampNeg).toInt64) <<< ((32 : Int32).toInt64 &&& 63)) ||| (((xs (nI i + (5 : Int32)).toNatClampNeg).toInt64) &&& (4294967295 : Int64))), .ref 45] σ cd σ1) (hM : Mr (d + 11) 129 [.ref 1, .int (xs (nI i + (1 : Int32)).toNatClampNeg), .long ((((xs (nI i + (2 : Int32)).toNatClampNeg).toInt64) <<< ((32 : Int32).toInt64 &&& 63)) ||| (((xs (nI i + (3 : Int32)).toNatClampNeg).toInt64) &&& (4294967295 : Int64))), .long ((((xs (nI i + (4 : Int32)).toNatClampNeg).toInt64) <<< ((32 : Int32).toInt64 &&& 63)) ||| (((xs (nI i + (5 : Int32)).toNatClampNeg).toInt64) &&& (4294967295 : Int64)))] σ1 (.long r) σ2 cd) (ho : cd = 0 → gal σ2 45 0 = r) : LwS d i 1139 σ σ2 := by
  subst hx
  have h61 : i + 6 ≤ gsl σ1 := by rw [hg1]; exact h6
  have hN1 : gsl σ1 ≤ 3072 := by rw [hg1]; exact hN
  intro o5 o6 o7 nv sd g rv f hb hB
  obtain ⟨nv2, sd2, g2, c, hb2, hc, hw⟩ := hW nv sd g rv f hb
  rw [← hx1] at hM
  obtain ⟨rv2, f2, hB2, ht, hm⟩ := hM nv2 sd2 g2 rv f hB
  have oX : cd = 0 → gal (KS (ZS σ2 rv2 f2) nv2 sd2 g2) 45 (0 : Int32).toNatClampNeg = r := by
    intro z
    rw [KS_al (by decide), ZS_al (by decide)]
    exact ho z
  exact ⟨some (.int cd), some (.long r), none, nv2, sd2, g2, rv2, f2, c, hb2, hB2, hc, fun hq => c181_1139 (σ := KS (ZS σ rv f) nv sd g) (lin (j := 1) h6 hN (by decide)) (lin (j := 2) h6 hN (by decide)) (lin (j := 3) h6 hN (by decide)) (lin (j := 4) h6 hN (by decide)) (lin (j := 5) h6 hN (by decide)) hw (b181_1194 (σ := KS (ZS σ1 rv f) nv2 sd2 g2) (lin (j := 1) h61 hN1 (by decide)) (lin (j := 2) h61 hN1 (by decide)) (lin (j := 3) h61 hN1 (by decide)) (lin (j := 4) h61 hN1 (by decide)) (lin (j := 5) h61 hN1 (by decide)) k1 hm (b181_1250 k1 (z_thr (thr_X.trans ht)) (b181_1256 (fun _ => b181_1263 (fun _ => b181_1279 hq) (fun z => b181_1268 i45 (fun _ => b181_1279 hq) (fun y => absurd (oX z) y))) (fun z => absurd rfl z))))⟩
theorem lw15 {r : Int64} (h6 : i + 6 ≤ gsl σ) (hN : gsl σ ≤ 3072) (hx : gai σ 48 = xs) (hx1 : gai σ1 48 = xs) (hg1 : gsl σ1 = gsl σ)
    (hW : Wr (d + 11) 180 [.ref 0, .int (xs (nI i + (1 : Int32)).toNatClampNeg), .long ((((xs (nI i + (2 : Int32)).toNatClampNeg).toInt64) <<< ((32 : Int32).toInt64 &&& 63)) ||| (((xs (nI i + (3 : Int32)).toNatClampNeg).toInt64) &&& (4294967295 : Int64))), .ref 45] σ cd σ1) (hM : Mr (d + 11) 136 [.ref 1, .int (xs (nI i + (1 : Int32)).toNatClampNeg), .long ((((xs (nI i + (2 : Int32)).toNatClampNeg).toInt64) <<< ((32 : Int32).toInt64 &&& 63)) ||| (((xs (nI i + (3 : Int32)).toNatClampNeg).toInt64) &&& (4294967295 : Int64)))] σ1 (.long r) σ2 cd) (ho : cd = 0 → gal σ2 45 0 = r) : LwS d i 1282 σ σ2 := by
  subst hx
  have h61 : i + 6 ≤ gsl σ1 := by rw [hg1]; exact h6
  have hN1 : gsl σ1 ≤ 3072 := by rw [hg1]; exact hN
  intro o5 o6 o7 nv sd g rv f hb hB
  obtain ⟨nv2, sd2, g2, c, hb2, hc, hw⟩ := hW nv sd g rv f hb
  rw [← hx1] at hM
  obtain ⟨rv2, f2, hB2, ht, hm⟩ := hM nv2 sd2 g2 rv f hB
  have oX : cd = 0 → gal (KS (ZS σ2 rv2 f2) nv2 sd2 g2) 45 (0 : Int32).toNatClampNeg = r := by
    intro z
    rw [KS_al (by decide), ZS_al (by decide)]
    exact ho z
  exact ⟨some (.int cd), some (.long r), none, nv2, sd2, g2, rv2, f2, c, hb2, hB2, hc, fun hq => c181_1282 (σ := KS (ZS σ rv f) nv sd g) (lin (j := 1) h6 hN (by decide)) (lin (j := 2) h6 hN (by decide)) (lin (j := 3) h6 hN (by decide)) hw (b181_1315 (σ := KS (ZS σ1 rv f) nv2 sd2 g2) (lin (j := 1) h61 hN1 (by decide)) (lin (j := 2) h61 hN1 (by decide)) (lin (j := 3) h61 hN1 (by decide)) k1 hm (b181_1349 k1 (z_thr (thr_X.trans ht)) (b181_1355 (fun _ => b181_1362 (fun _ => b181_1378 hq) (fun z => b181_1367 i45 (fun _ => b181_1378 hq) (fun y => absurd (oX z) y))) (fun z => absurd rfl z))))⟩
end
