/-! the reference: casts -/
theorem nI_mod (v : Nat) : nI v = nI (v % 2 ^ 32) := by
  apply Int32.toBitVec_inj.mp
  apply BitVec.eq_of_toNat_eq
  show v % 2 ^ 32 = v % 2 ^ 32 % 2 ^ 32
  rw [Nat.mod_mod]
theorem iZ_nI (z : Int) : iZ z = nI (z % 2 ^ 32).toNat := by
  apply Int32.toBitVec_inj.mp
  apply BitVec.eq_of_toNat_eq
  unfold iZ
  rw [Int32.toBitVec_ofInt, BitVec.toNat_ofInt]
  show (z % ((2 ^ 32 : Nat) : Int)).toNat = (z % 2 ^ 32).toNat % 2 ^ 32
  have h1 : ((2 ^ 32 : Nat) : Int) = 2 ^ 32 := by decide
  rw [h1]
  have h2 := Int.emod_lt_of_pos z (b := 2 ^ 32) (by decide)
  have h3 := Int.emod_nonneg z (b := 2 ^ 32) (by decide)
  rw [Nat.mod_eq_of_lt]
  simp only [Int.reducePow, Nat.reducePow] at h2 h3 ⊢
  omega
theorem toInt_nI {u : Nat} (h : u < 2 ^ 32) : (nI u).toInt = if u < 2 ^ 31 then (u : Int) else (u : Int) - 4294967296 := by
  by_cases c : u < 2 ^ 31
  · rw [if_pos c, ← iZ_N, iZ_t (by omega) (by omega)]
  · rw [if_neg c]
    have e : nI u = iZ ((u : Int) - 4294967296) := by
      rw [iZ_nI]
      congr 1
      simp only [Int.reducePow, Nat.reducePow] at h c ⊢
      omega
    rw [e, iZ_t]
    · simp only [Int.reducePow, Nat.reducePow] at h c ⊢
      omega
    · simp only [Int.reducePow, Nat.reducePow] at h c ⊢
      omega
theorem or_I {p : Nat} (hp : p < 8388608) : nI p ||| 8388608 = nI (8388608 + p) := by
  apply Int32.toBitVec_inj.mp
  apply BitVec.eq_of_toNat_eq
  show (p % 2 ^ 32) ||| 8388608 = (8388608 + p) % 2 ^ 32
  have h := Nat.two_pow_add_eq_or_of_lt (b := p) (i := 23) hp 1
  rw [Nat.mul_one] at h
  rw [Nat.mod_eq_of_lt (show p < 2 ^ 32 by omega), Nat.mod_eq_of_lt (show 8388608 + p < 2 ^ 32 by omega), Nat.or_comm]
  exact h.symm
theorem ex47 (v : Nat) : (nI v >>> ((23 : Int32) &&& 31)) &&& 255 = nI (fex 47 v) := by
  obtain ⟨u, hu⟩ : ∃ u, u = v % 2 ^ 32 := ⟨_, rfl⟩
  have hlt : u < 2 ^ 32 := by rw [hu]; exact Nat.mod_lt _ (by decide)
  rw [nI_mod v, ← hu]
  have h1 := pk_shr (nI u) ((23 : Int32) &&& 31) 23 (by decide)
  rw [Int.shiftRight_eq_div_pow, toInt_nI hlt] at h1
  obtain ⟨y, hy⟩ : ∃ y, y = nI u >>> ((23 : Int32) &&& 31) := ⟨_, rfl⟩
  rw [← hy] at h1 ⊢
  have h2 := iZ_nI y.toInt
  rw [iZ_s] at h2
  have h3 : (y.toInt % 2 ^ 32).toNat < 2 ^ 32 := by
    have h4 := Int.emod_lt_of_pos y.toInt (b := 2 ^ 32) (by decide)
    have h5 := Int.emod_nonneg y.toInt (b := 2 ^ 32) (by decide)
    simp only [Int.reducePow, Nat.reducePow] at h4 h5 ⊢
    omega
  rw [h2, pk_andN h3 (m := 255) 8 rfl]
  congr 1
  rw [h1]
  show _ = v % 2147483648 / 8388608
  simp only [Int.reducePow, Nat.reducePow] at hu hlt ⊢
  split <;> omega
theorem pt47 (v : Nat) : nI v &&& 8388607 = nI (v % 8388608) := by
  rw [nI_mod v, pk_andN (Nat.mod_lt _ (by decide)) (m := 8388607) 23 rfl]
  congr 1
  simp only [Nat.reducePow]
  omega
theorem sg47 (v : Nat) : 0 ≤ nI v ↔ ¬ fsg 47 v = 1 := by
  rw [nI_mod v, i_le, toInt_nI (Nat.mod_lt _ (by decide))]
  show 0 ≤ _ ↔ ¬ v / 2147483648 % 2 = 1
  simp only [Nat.reducePow]
  split <;> omega
theorem or_sg {x E : Nat} {b : Bool} (hx : FO x) (hE : E < 2 ^ fs x) : lN E ||| lN (sbit x b) = lN (E + sbit x b) := by
  obtain ⟨_, _, x3, _⟩ := hx.s
  cases b with
  | false =>
    show lN E ||| lN 0 = lN (E + 0)
    rw [lN_0, Int64.or_zero, Nat.add_zero]
  | true =>
    show lN E ||| lN (2 ^ fs x) = lN (E + 2 ^ fs x)
    have o := or_N (a := 1) (b := E) (k := fs x) hE (by rw [Nat.one_mul]; exact pw_lt (by omega))
    rw [Nat.one_mul] at o
    rw [Int64.or_comm, o, Nat.add_comm (2 ^ fs x) E]
section
variable {d n v w : Nat} {σ : St} {rv : Nat → Nat} {f : Nat → Int32} {S : St}
theorem z_cut {l : Bool} (hv : v < 2 ^ 64) : Zx (d + 4) 137 [.ref 1, .long (lN v), .int (if l then 1 else 0)] (.long (lZ (if l then tlV v else tiV v))) := by
  intro σ rv f hB
  have hc : -1074 ≤ fsc 46 v ∧ fsc 46 v ≤ 972 := fsc_rng
  have f53 := fsi_53 (n := v)
  have n1 := z_isNo (d := d + 1) (v := v) (S := ZS σ rv f) hv
  have i1 := z_isInf (d := d + 1) (v := v) (S := ZS σ rv f) hv
  have tp := fun (S : St) => z_place (d := d + 1) (v := v) (S := S) hv
  have tf := fun (S : St) => z_fac (d := d + 1) (v := v) (S := S) hv
  have sn := sgB_neg hv
  by_cases c1 : infN < fsz 46 v
  · rw [if_pos c1] at n1
    have e : (if l then tlV v else tiV v) = 0 := by
      have h1 : tlV v = 0 := by
        unfold tlV
        rw [if_pos c1]
      unfold tiV
      rw [h1]
      cases l <;> rfl
    rw [e]
    exact ⟨rv, f, hB, rfl, b137_0 n1 (b137_4 (fun z => absurd z (by decide)) (fun _ => b137_7))⟩
  rw [if_neg c1] at n1
  obtain ⟨M, hM⟩ : ∃ M : Nat, M = if l then 9223372036854775807 else 2147483647 := ⟨_, rfl⟩
  have hM63 : M < 2 ^ 63 := by rw [hM]; cases l <;> decide
  have start : ∀ {q : Rs}, Er (d + 4) 137 (22, [some (.ref 1), some (.long (lN v)), none, some (.int (if l then 1 else 0)), none, none, none, none, none], [.long (lN M)], ZS σ rv f) q → Er (d + 4) 137 (0, ent 137 [.ref 1, .long (lN v), .int (if l then 1 else 0)], [], ZS σ rv f) q := by
    intro q hq
    refine b137_0 n1 (b137_4 (fun _ => ?_) (fun z => absurd rfl z))
    cases l with
    | false =>
      rw [hM] at hq
      exact b137_9 (fun _ => b137_19 hq) (fun z => absurd rfl z)
    | true =>
      rw [hM] at hq
      exact b137_9 (fun z => absurd z (by decide)) (fun _ => b137_13 hq)
  -- too great
  have tooBig : ∀ {rv2 : Nat → Nat} {f2 : Nat → Int32} {x7 : Int64}, Er (d + 4) 137 (124, [some (.ref 1), some (.long (lN v)), none, some (.int (if l then 1 else 0)), some (.long (lN M)), none, some (.int 1), some (.long x7), none], [], ZS σ rv2 f2) (.inl (some (.long (lZ (if sgB v then -(M : Int) - 1 else M)))), ZS σ rv2 f2, 0) := by
    intro rv2 f2 x7
    refine b137_124 (fun z => absurd z (by decide)) (fun _ => b137_129 (fun z => ?_) (fun z => ?_))
    · rw [sn] at z
      rw [if_neg z, lZ_N]
      exact b137_143 b137_145
    · rw [sn] at z
      rw [if_pos z]
      have e : -lN M - 1 = lZ (-(M : Int) - 1) := by rw [← lZ_N, lZ_neg, show (1 : Int64) = lZ 1 from rfl, lZ_sub]
      refine b137_135 ?_
      rw [e]
      exact b137_145
  have hx := fex46 v
  have hsc := fsc46 v
  have hp := inf_ex v
  have hI : infN = 2047 * 4503599627370496 := rfl
  have hpl : v % 2 ^ 52 < 4503599627370496 := Nat.mod_lt _ (by decide)
  by_cases cA : fsz 46 v = infN ∨ 10 < fsc 46 v
  · have hb : 64 ≤ (bln (fsi 46 v) : Int) + fsc 46 v := by
      have hne : fex 46 v ≠ 0 := by
        intro e
        rw [if_pos e] at hsc
        rw [e] at hp
        omega
      have h52 : 2 ^ 52 ≤ fsi 46 v := by
        unfold fsi
        rw [if_neg hne]
        exact Nat.le_add_right _ _
      have hbl : 53 ≤ bln (fsi 46 v) := by
        apply Nat.le_of_not_lt
        intro e
        have := bln_le.mp (show bln (fsi 46 v) ≤ 52 by omega)
        omega
      rw [if_neg hne] at hsc
      omega
    have e : (if l then tlV v else tiV v) = if sgB v then -(M : Int) - 1 else M := by
      have h1 : tlV v = if sgB v then -9223372036854775808 else 9223372036854775807 := by
        unfold tlV
        rw [if_neg c1, if_pos hb]
      unfold tiV
      rw [h1, hM]
      cases l <;> cases sgB v <;> rfl
    rw [e]
    refine ⟨rv, f, hB, rfl, start (b137_22 i1 ?_)⟩
    by_cases c2 : fsz 46 v = infN
    · rw [if_pos c2]
      exact b137_28 (fun _ => b137_40 (b137_45 (fun _ => tooBig) (fun z => absurd z (by decide)))) (fun z => absurd z (by decide))
    · rw [if_neg c2]
      refine b137_28 (fun z => absurd rfl z) (fun _ => b137_31 (tp _) (b137_35 (fun z => ?_) (fun _ => b137_40 (b137_45 (fun _ => tooBig) (fun z => absurd z (by decide))))))
      rw [show (10 : Int32) = iZ 10 by decide, iZ_le (by omega) (by omega) (by decide) (by decide)] at z
      omega
  · have c2 : ¬ fsz 46 v = infN := fun e => cA (Or.inl e)
    have c3 : fsc 46 v ≤ 10 := by omega
    rw [if_neg c2] at i1
    have hbl : bln (fsi 46 v) ≤ 53 := bln_le.mpr f53
    have hnb : ¬ 64 ≤ (bln (fsi 46 v) : Int) + fsc 46 v := by omega
    have hV63 := cut_lt63 hnb
    have htl : tlV v = if sgB v then -(cutN v : Int) else cutN v := by
      unfold tlV
      rw [if_neg c1, if_neg hnb]
    obtain ⟨V, hV⟩ : ∃ V, V = cutN v := ⟨_, rfl⟩
    rw [← hV] at hV63 htl
    have start2 : ∀ {q : Rs}, Er (d + 4) 137 (59, [some (.ref 1), some (.long (lN v)), none, some (.int (if l then 1 else 0)), some (.long (lN M)), none, some (.int 0), some (.long 0), none], [.int (iZ (fsc 46 v))], ZS σ rv f) q → Er (d + 4) 137 (0, ent 137 [.ref 1, .long (lN v), .int (if l then 1 else 0)], [], ZS σ rv f) q := by
      intro q hq
      refine start (b137_22 i1 (b137_28 (fun z => absurd rfl z) (fun _ => b137_31 (tp _) (b137_35 (fun _ => b137_44 (b137_45 (fun z => absurd rfl z) (fun _ => b137_55 (tp _) hq))) (fun z => ?_)))))
      rw [show (10 : Int32) = iZ 10 by decide, iZ_le (by omega) (by omega) (by decide) (by decide)] at z
      exact absurd c3 z
    -- behind the size
    have fin : ∀ {f2 : Nat → Int32}, Er (d + 4) 137 (79, [some (.ref 1), some (.long (lN v)), none, some (.int (if l then 1 else 0)), some (.long (lN M)), none, some (.int 0), some (.long 0), none], [.long (lN V)], ZS σ rv f2) (.inl (some (.long (lZ (if l then tlV v else tiV v)))), ZS σ rv f2, 0) := by
      intro f2
      have go102 : Er (d + 4) 137 (102, [some (.ref 1), some (.long (lN v)), none, some (.int (if l then 1 else 0)), some (.long (lN M)), none, some (.int 0), some (.long (lN V)), none], [], ZS σ rv f2) (.inl (some (.long (lZ (if l then tlV v else tiV v)))), ZS σ rv f2, 0) := by
        refine b137_102 (fun z => ?_) (fun _ => b137_109 (fun z => b137_121 (b137_122 (b137_124 (fun _ => ?_) (fun y => absurd rfl y)))) (fun z => b137_117 (b137_122 ?_)))
        · rw [lt0, toInt_N hV63] at z
          omega
        · rw [ltN hM63 hV63] at z
          have e : (if l then tlV v else tiV v) = if sgB v then -(V : Int) else V := by
            cases l with
            | true => exact htl
            | false =>
              rw [hM] at z
              have hz : V ≤ 2147483647 := Nat.le_of_not_lt z
              show tiV v = _
              unfold tiV
              rw [htl]
              cases sgB v with
              | true =>
                show max (-2147483648) (min (-(V : Int)) 2147483647) = -(V : Int)
                omega
              | false =>
                show max (-2147483648) (min (V : Int) 2147483647) = (V : Int)
                omega
          rw [e]
          refine b137_146 (fun y => ?_) (fun y => b137_152 ?_)
          · rw [sn] at y
            rw [if_neg y, lZ_N]
            exact b137_158 b137_160
          · rw [sn] at y
            rw [if_pos y, ← lZ_neg, lZ_N]
            exact b137_160
        · rw [ltN hM63 hV63] at z
          have e : (if l then tlV v else tiV v) = if sgB v then -(M : Int) - 1 else M := by
            cases l with
            | true =>
              rw [hM] at z
              exact absurd hV63 (by simp only [Nat.reducePow]; exact Nat.not_lt.mpr z)
            | false =>
              rw [hM] at z
              have hz : 2147483647 < V := z
              show tiV v = _
              unfold tiV
              rw [htl, hM]
              cases sgB v with
              | true =>
                show max (-2147483648) (min (-(V : Int)) 2147483647) = -((2147483647 : Nat) : Int) - 1
                omega
              | false =>
                show max (-2147483648) (min (V : Int) 2147483647) = ((2147483647 : Nat) : Int)
                omega
          rw [e]
          exact tooBig
      refine b137_79 (tp _) (b137_85 (fun _ => go102) (fun _ => b137_90 (tf _) (b137_94 (fun z => ?_) (fun _ => go102))))
      have e0 : lN (fsi 46 v) >>> ((53 : Int32).toInt64 &&& 63) = lN 0 := by
        rw [shr_N (s := 53) 53 (Nat.lt_trans f53 (by decide)) rfl (by decide), Nat.div_eq_of_lt f53]
      rw [e0] at z
      exact absurd z (by decide)
    have zc : iZ (fsc 46 v) ≤ 0 ↔ fsc 46 v ≤ 0 := by
      rw [iZ0]
      exact iZ_le (by omega) (by omega) (by decide) (by decide)
    have u9 : ∀ {y : Int32}, upi f 9 y 0 = f 0 := fun {y} => upi_n (by decide)
    by_cases g : fsc 46 v ≤ 0
    · by_cases g0 : 0 ≤ fsc 46 v
      · have eV : V = fsi 46 v := by
          rw [hV]
          unfold cutN
          rw [if_pos g0, show (fsc 46 v).toNat = 0 by omega, Nat.pow_zero, Nat.mul_one]
        have t := z_front0 (d := d) (σ := σ) (rv := rv) (f := f) hv g0
        rw [← eV] at t
        exact ⟨rv, upi f 9 0, hB, u9, start2 (b137_59 (fun _ => b137_74 k1 t fin) (fun z => absurd (zc.mpr g) z))⟩
      · obtain ⟨k, hk⟩ : ∃ k, k = (-(fsc 46 v)).toNat := ⟨_, rfl⟩
        have eV : V = fsi 46 v / 2 ^ k := by
          rw [hV, hk]
          unfold cutN
          rw [if_neg g0]
        have t := z_front (d := d) (σ := σ) (rv := rv) (f := f) (k := k) hv (by omega) (by omega)
        rw [← eV] at t
        exact ⟨rv, upi f 9 (rcode (fsi 46 v) k), hB, u9, start2 (b137_59 (fun _ => b137_74 k1 t fin) (fun z => absurd (zc.mpr g) z))⟩
    · have en : iZ (fsc 46 v) = nI (fsc 46 v).toNat := by
        rw [← iZ_N]
        congr 1
        omega
      have eV : V = fsi 46 v * 2 ^ (fsc 46 v).toNat := by
        rw [hV]
        unfold cutN
        rw [if_pos (by omega)]
      refine ⟨rv, f, hB, rfl, start2 (b137_59 (fun z => absurd (zc.mp z) g) (fun _ => b137_62 (tf _) (b137_66 (tp _) (b137_70 ?_))))⟩
      rw [en, shl_N (s := nI (fsc 46 v).toNat) (fsc 46 v).toNat rfl (by omega), ← eV]
      exact fin
theorem z_floatBits (hv : v < 2 ^ 64) : Zx (d + 5) 138 [.ref 1, .long (lN v)] (.long ((lN (chV 46 47 v)).toInt32.toInt64)) := by
  intro σ rv f hB
  have hc : -1074 ≤ fsc 46 v ∧ fsc 46 v ≤ 972 := fsc_rng
  have f53 := fsi_53 (n := v)
  have n1 := z_isNo (d := d + 2) (v := v) (S := ZS σ rv f) hv
  have i1 := z_isInf (d := d + 2) (v := v) (S := ZS σ rv f) hv
  have sn := sgB_neg hv
  unfold chV
  rw [inf46]
  by_cases c1 : infN < fsz 46 v
  · rw [if_pos c1] at n1 ⊢
    have e : (lN (fn 47)).toInt32.toInt64 = 2143289344 := by decide
    rw [e]
    exact ⟨rv, f, hB, rfl, b138_0 n1 (b138_4 (fun z => absurd z (by decide)) (fun _ => b138_7))⟩
  rw [if_neg c1] at n1 ⊢
  have start : ∀ {q : Rs}, Er (d + 5) 138 (24, [some (.ref 1), some (.long (lN v)), none, none, none], [.long (lN (sbit 47 (sgB v)))], ZS σ rv f) q → Er (d + 5) 138 (0, ent 138 [.ref 1, .long (lN v)], [], ZS σ rv f) q := by
    intro q hq
    refine b138_0 n1 (b138_4 (fun _ => b138_11 (fun z => ?_) (fun z => ?_)) (fun z => absurd rfl z))
    · rw [sn] at z
      have : sgB v = false := by
        cases h : sgB v with
        | false => rfl
        | true => exact absurd h z
      rw [this] at hq
      exact b138_23 hq
    · rw [sn] at z
      rw [z] at hq
      exact b138_17 hq
  have eb : decide (fsg 46 v = 1) = sgB v := rfl
  rw [eb]
  by_cases c2 : fsz 46 v = infN
  · rw [if_pos c2] at i1
    rw [if_neg (by omega)]
    refine ⟨rv, f, hB, rfl, start (b138_24 i1 (b138_29 (fun z => absurd z (by decide)) (fun _ => ?_)))⟩
    have t := b138_32 (d := d + 4) (x0 := 1) (x1 := lN v) (x3 := lN (sbit 47 (sgB v))) (σ := ZS σ rv f)
    have o := or_sg (x := 47) (E := fe 47 * 2 ^ fb 47) (b := sgB v) O47 (by decide)
    have e : (2139095040 : Int64) = lN (fe 47 * 2 ^ fb 47) := by decide
    rw [e, o] at t
    exact t
  · rw [if_neg c2] at i1
    rw [if_pos (by omega)]
    obtain ⟨rv2, f4, B2, e0, hsc⟩ := z_sca (d := d) (x := 47) (m := fsi 46 v) (z := fsc 46 v) O47 (Nat.lt_trans f53 (by decide)) (by omega) (by omega) σ rv f hB
    rw [if_neg (by decide)] at hsc
    refine ⟨rv2, f4, B2, e0, start (b138_24 i1 (b138_29 (fun _ => b138_40 (z_fac hv) (b138_45 (z_place hv) (b138_49 k1 hsc ?_))) (fun z => absurd rfl z)))⟩
    have t := b138_53 (d := d + 4) (x0 := 1) (x1 := lN v) (x3 := lN (sbit 47 (sgB v))) (s0 := lN (ew 47 false (fsi 46 v) (fsc 46 v))) (σ := ZS σ rv2 f4)
    rw [or_sg O47 (ew_lt O47), ← ew_b] at t
    exact t
theorem z_fromFloat : Zx (d + 5) 139 [.ref 1, .int (nI v)] (.long (lN (chV 47 46 v))) := by
  intro σ rv f hB
  have e1 := ex47 v
  have e2 := pt47 v
  have e3 := sg47 v
  obtain ⟨b, hb⟩ : ∃ b, b = decide (fsg 47 v = 1) := ⟨_, rfl⟩
  have hbt : b = true ↔ fsg 47 v = 1 := by rw [hb]; exact decide_eq_true_iff
  obtain ⟨e, he⟩ : ∃ e, e = fex 47 v := ⟨_, rfl⟩
  obtain ⟨p, hp⟩ : ∃ p, p = v % 8388608 := ⟨_, rfl⟩
  have hp23 : p < 8388608 := by rw [hp]; exact Nat.mod_lt _ (by decide)
  have hes : e = v % 2147483648 / 8388608 := he
  have hsz : fsz 47 v = e * 8388608 + p := by
    show v % 2147483648 = _
    rw [hes, hp]
    omega
  have he8 : e < 256 := by omega
  rw [← he] at e1
  rw [← hp] at e2
  have start : ∀ {q : Rs}, Er (d + 5) 139 (25, [some (.ref 1), some (.int (nI v)), some (.int (nI e)), some (.int (nI p)), none, none, none, none], [.long (lN (sbit 46 b))], ZS σ rv f) q → Er (d + 5) 139 (0, ent 139 [.ref 1, .int (nI v)], [], ZS σ rv f) q := by
    intro q hq
    refine b139_0 (fun z => ?_) (fun z => ?_)
    · rw [e3] at z
      have : b = false := by
        cases h : b with
        | false => rfl
        | true => exact absurd (hbt.mp h) z
      rw [this] at hq
      rw [e1, e2]
      exact b139_24 hq
    · rw [e3] at z
      have : b = true := hbt.mpr (Classical.not_not.mp z)
      rw [this] at hq
      rw [e1, e2]
      exact b139_18 hq
  unfold chV
  rw [← hb, inf46]
  have hi47 : fe 47 * 2 ^ fb 47 = 255 * 8388608 := by decide
  rw [hi47, hsz]
  have p0 : nI p = 0 ↔ p = 0 := nI_eq (b := 0) (by omega) (by decide)
  by_cases c : e = 255
  · have start2 : ∀ {q : Rs}, Er (d + 5) 139 (34, [some (.ref 1), some (.int (nI v)), some (.int (nI e)), some (.int (nI p)), some (.long (lN (sbit 46 b))), none, none, none], [], ZS σ rv f) q → Er (d + 5) 139 (0, ent 139 [.ref 1, .int (nI v)], [], ZS σ rv f) q := fun hq =>
      start (b139_25 (fun z => absurd ((nI_eq (b := 255) (by omega) (by decide)).mpr c) z) (fun _ => hq))
    by_cases cp : p = 0
    · rw [if_neg (by omega), if_neg (by omega)]
      refine ⟨rv, f, hB, rfl, start2 (b139_34 (fun z => absurd (p0.mpr cp) z) (fun _ => b139_38 ?_))⟩
      have o := or_sg (x := 46) (E := infN) (b := b) O46 (by decide)
      have ei : (9218868437227405312 : Int64) = lN infN := by decide
      rw [ei, o]
      exact b139_50
    · rw [if_pos (by omega)]
      exact ⟨rv, f, hB, rfl, start2 (b139_34 (fun _ => b139_47 b139_50) (fun z => absurd (p0.mp z) cp))⟩
  · rw [if_neg (by omega), if_pos (by omega)]
    have x0 : nI e = 0 ↔ e = 0 := nI_eq (b := 0) (by omega) (by decide)
    have start2 : ∀ {q : Rs}, Er (d + 5) 139 (51, [some (.ref 1), some (.int (nI v)), some (.int (nI e)), some (.int (nI p)), some (.long (lN (sbit 46 b))), none, none, none], [], ZS σ rv f) q → Er (d + 5) 139 (0, ent 139 [.ref 1, .int (nI v)], [], ZS σ rv f) q := fun hq =>
      start (b139_25 (fun _ => hq) (fun z => absurd ((nI_eq (b := 255) (by omega) (by decide)).mp z) c))
    have hfi : fsi 47 v = if e = 0 then p else 8388608 + p := by rw [he, hp]; rfl
    have hfc : fsc 47 v = if e = 0 then -149 else (e : Int) - 150 := by
      unfold fsc
      rw [← he, show ((fz 47 : Nat) : Int) = 149 from rfl]
      by_cases q : e = 0
      · rw [if_pos q, q]; rfl
      · rw [if_neg q]; omega
    obtain ⟨m, hm⟩ : ∃ m, m = fsi 47 v := ⟨_, rfl⟩
    obtain ⟨z, hz⟩ : ∃ z, z = fsc 47 v := ⟨_, rfl⟩
    rw [← hm] at hfi ⊢
    rw [← hz] at hfc ⊢
    have m60 : m < 2 ^ 60 := by
      rw [hfi]
      split <;> omega
    have z1 : -149 ≤ z ∧ z ≤ 110 := by
      rw [hfc]
      split <;> omega
    obtain ⟨rv2, f4, B2, e0, hsc⟩ := z_sca (d := d) (x := 46) (m := m) (z := z) O46 m60 (by omega) (by omega) σ rv f hB
    rw [if_pos rfl] at hsc
    have last : ∀ {x6 : Int64}, Er (d + 5) 139 (85, [some (.ref 1), some (.int (nI v)), some (.int (nI e)), some (.int (nI p)), some (.long (lN (sbit 46 b))), none, some (.long x6), none], [.int (iZ z), .long (lN m), .ref 1], ZS σ rv f) (.inl (some (.long (lN (ew 46 b m z)))), ZS σ rv2 f4, 0) := by
      intro x6
      refine b139_85 k1 hsc ?_
      have t := b139_89 (d := d + 4) (x0 := 1) (x1 := nI v) (x2 := nI e) (x3 := nI p) (x4 := lN (sbit 46 b)) (x6 := x6) (s0 := lN (ew 46 false m z)) (σ := ZS σ rv2 f4)
      rw [or_sg O46 (ew_lt O46), ← ew_b] at t
      exact t
    refine ⟨rv2, f4, B2, e0, start2 ?_⟩
    by_cases ce : e = 0
    · rw [if_pos ce] at hfi hfc
      refine b139_51 (fun y => absurd (x0.mpr ce) y) (fun _ => b139_55 ?_)
      rw [nI_l (by omega), show lN p = lN m by rw [hfi]]
      refine b139_65 (fun y => absurd (x0.mpr ce) y) (fun _ => b139_74 ?_)
      rw [hfc] at last
      rw [hfc]
      exact last
    · rw [if_neg ce] at hfi hfc
      refine b139_51 (fun _ => b139_60 ?_) (fun y => absurd (x0.mp y) ce)
      rw [or_I hp23, nI_l (by omega), ← hfi]
      refine b139_65 (fun _ => b139_80 ?_) (fun y => absurd (x0.mp y) ce)
      have en : nI e - 150 = iZ z := by
        rw [← iZ_N, show (150 : Int32) = iZ 150 by decide, iZ_sub, hfc]
      rw [en]
      exact last
theorem z_castx {x1 : Int32} {a : Int64} (h : ¬ ∃ k, k ≤ 6 ∧ x1 = nI k) : Ml (d + 2) 136 [.ref 1, .int x1, .long a] σ (.long 0) σ 1 := by
  intro rv f hB
  have t := b136_15 (d := d + 1) (x0 := 1) (x1 := x1) (x2 := a) (s0 := 0) (σ := ZS σ rv (upi f 0 1))
  rw [i0l] at t
  refine ⟨rv, upi f 0 1, hB, upi_s _ _ _, b136_0 (fun _ => b136_10 k1 z_fails t) (fun z => b136_4 (fun y => ?_) (fun _ => b136_10 k1 z_fails t))⟩
  obtain ⟨j, hj, rfl⟩ := nI_of z
  have y2 := (nI_leI (b := 6) hj (by decide)).mp y
  exact absurd ⟨j, y2, rfl⟩ h
theorem z_cast {k : Nat} (hk : k ≤ 6) (hv : v < 2 ^ 64) : Ml (d + 6) 136 [.ref 1, .int (nI k), .long (lN v)] σ (.long (casV k v)) σ 0 := by
  intro rv f hB
  have es : sfi (ZS σ rv f) 1 0 0 = ZS σ rv (upi f 0 0) := ZS_set (by decide)
  obtain ⟨rv1, f1, B1, e1, hc⟩ := z_cut (d := d + 1) (v := v) (l := false) hv σ rv (upi f 0 0) hB
  rw [upi_s] at e1
  have hc2 : Er (d + 5) 137 (0, ent 137 [.ref 1, .long (lN v), .int 0], [], ZS σ rv (upi f 0 0)) (.inl (some (.long (lZ (tiV v)))), ZS σ rv1 f1, 0) := hc
  have start : ∀ {q : Rs}, Er (d + 6) 136 (tsw 32 72 0 5 #[40, 47, 51, 56, 61, 66] (nI k).toInt, [some (.ref 1), some (.int (nI k)), some (.long (lN v)), none, some (.int (iZ (tiV v)))], [], ZS σ rv1 f1) q → Er (d + 6) 136 (0, ent 136 [.ref 1, .int (nI k), .long (lN v)], [], ZS σ rv f) q := by
    intro q hq
    refine b136_0 (fun z => absurd z (nI_pos (by omega))) (fun _ => b136_4 (fun _ => b136_17 (r := lZ (tiV v)) (σ2 := ZS σ rv1 f1) ⟨by decide, rfl, rfl⟩ k1 (by rw [es]; exact hc2) (b136_28 ?_)) (fun z => absurd (nI_le (b := 6) hk (by decide)) z))
    rw [lZ_i]
    exact hq
  rcases (show k = 0 ∨ k = 1 ∨ k = 2 ∨ k = 3 ∨ k = 4 ∨ k = 5 ∨ k = 6 by omega) with rfl | rfl | rfl | rfl | rfl | rfl | rfl
  · have dp : tsw 32 72 0 5 #[40, 47, 51, 56, 61, 66] (nI 0).toInt = 72 := by decide
    rw [dp] at start
    obtain ⟨rv2, f2, B2, e2, hl⟩ := z_cut (d := d + 1) (v := v) (l := true) hv σ rv1 f1 B1
    have hl2 : Er (d + 5) 137 (0, ent 137 [.ref 1, .long (lN v), .int 1], [], ZS σ rv1 f1) (.inl (some (.long (lZ (tlV v)))), ZS σ rv2 f2, 0) := hl
    exact ⟨rv2, f2, B2, by rw [e2, e1], start (b136_72 k1 hl2 b136_78)⟩
  · have dp : tsw 32 72 0 5 #[40, 47, 51, 56, 61, 66] (nI 1).toInt = 79 := by decide
    rw [dp] at start
    exact ⟨rv1, f1, B1, e1, start b136_79⟩
  · have dp : tsw 32 72 0 5 #[40, 47, 51, 56, 61, 66] (nI 2).toInt = 83 := by decide
    rw [dp] at start
    exact ⟨rv1, f1, B1, e1, start b136_83⟩
  · have dp : tsw 32 72 0 5 #[40, 47, 51, 56, 61, 66] (nI 3).toInt = 88 := by decide
    rw [dp] at start
    exact ⟨rv1, f1, B1, e1, start b136_88⟩
  · have dp : tsw 32 72 0 5 #[40, 47, 51, 56, 61, 66] (nI 4).toInt = 93 := by decide
    rw [dp] at start
    exact ⟨rv1, f1, B1, e1, start b136_93⟩
  · have dp : tsw 32 72 0 5 #[40, 47, 51, 56, 61, 66] (nI 5).toInt = 98 := by decide
    rw [dp] at start
    obtain ⟨rv2, f2, B2, e2, hl⟩ := z_floatBits (d := d) (v := v) hv σ rv1 f1 B1
    exact ⟨rv2, f2, B2, by rw [e2, e1], start (b136_98 k1 hl b136_103)⟩
  · have dp : tsw 32 72 0 5 #[40, 47, 51, 56, 61, 66] (nI 6).toInt = 104 := by decide
    rw [dp] at start
    obtain ⟨rv2, f2, B2, e2, hl⟩ := z_fromFloat (d := d) (v := v) σ rv1 f1 B1
    refine ⟨rv2, f2, B2, by rw [e2, e1], start (b136_104 k1 ?_ b136_110)⟩
    rw [N_i]
    exact hl
end
