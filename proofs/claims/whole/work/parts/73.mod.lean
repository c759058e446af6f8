/-! the reference: rounded, remainder -/
def Zx (d m : Nat) (args : List Value) (res : Value) : Prop := ∀ (σ : St) (rv : Nat → Nat) (f : Nat → Int32), BM rv → ∃ rv2 f2, BM rv2 ∧ f2 0 = f 0 ∧ Er d m (0, ent m args, [], ZS σ rv f) (.inl (some res), ZS σ rv2 f2, 0)
theorem z_sca {d x m : Nat} {z : Int} (h : FO x) (hm : m < 2 ^ 60) (hz1 : -9000 ≤ z) (hz2 : z ≤ 9000) : Zx (d + 4) 131 [.ref 1, .long (lN m), .int (iZ z), .int (if x = 46 then 1 else 0)] (.long (lN (ew x false m z))) := fun _ _ _ hB => z_scaled h hm hz1 hz2 hB
theorem rcode_f {m k : Nat} : (rcode m k ≤ 0 ↔ m % 2 ^ k = 0) ∧ (rcode m k = 3 ↔ 2 ^ (k - 1) < m % 2 ^ k) ∧ (rcode m k = 2 ↔ m % 2 ^ k = 2 ^ (k - 1)) := by
  unfold rcode
  have hp := Nat.two_pow_pos (k - 1)
  obtain ⟨r, hr⟩ : ∃ r, r = m % 2 ^ k := ⟨_, rfl⟩
  obtain ⟨H, hH⟩ : ∃ H, H = 2 ^ (k - 1) := ⟨_, rfl⟩
  rw [← hr, ← hH]
  rw [← hH] at hp
  by_cases c0 : r = 0
  · rw [if_pos c0]
    exact ⟨⟨fun _ => c0, fun _ => by decide⟩, ⟨fun z => absurd z (by decide), fun z => by omega⟩, ⟨fun z => absurd z (by decide), fun z => by omega⟩⟩
  · rw [if_neg c0]
    by_cases c1 : r < H
    · rw [if_pos c1]
      exact ⟨⟨fun z => absurd z (by decide), fun z => absurd z c0⟩, ⟨fun z => absurd z (by decide), fun z => by omega⟩, ⟨fun z => absurd z (by decide), fun z => by omega⟩⟩
    · rw [if_neg c1]
      by_cases c2 : r = H
      · rw [if_pos c2]
        exact ⟨⟨fun z => absurd z (by decide), fun z => absurd z c0⟩, ⟨fun z => absurd z (by decide), fun z => by omega⟩, ⟨fun _ => c2, fun _ => rfl⟩⟩
      · rw [if_neg c2]
        exact ⟨⟨fun z => absurd z (by decide), fun z => absurd z c0⟩, ⟨fun _ => by omega, fun _ => rfl⟩, ⟨fun z => absurd z (by decide), fun z => absurd z c2⟩⟩
theorem odd_N {M : Nat} : (lN M &&& 1 = (1 : Int64)) ↔ M % 2 = 1 := by
  have h1 : lN M &&& (1 : Int64) = lN (M % 2 ^ 1) := and_N (n := M) (m := 1) 1 rfl (by decide)
  rw [h1]
  exact lN_inj (b := 1) (Nat.lt_of_lt_of_le (Nat.mod_lt _ (by decide)) (by decide)) (by decide)
section
variable {d n v w : Nat} {σ : St} {rv : Nat → Nat} {f : Nat → Int32} {S : St}
theorem sgB_neg (hv : v < 2 ^ 64) : lN v < 0 ↔ sgB v = true := by rw [lt0_N hv, sgB_1]
theorem z_rounded {kind dir : Nat} (hkd : (kind = 1 ∧ dir = 2) ∨ (kind = 2 ∧ dir = 1) ∨ (kind = 3 ∧ dir = 0)) (hv : v < 2 ^ 64) : Zx (d + 5) 132 [.ref 1, .int (nI kind), .long (lN v)] (.long (lN (twhV v dir))) := by
  intro σ rv f hB
  have hc : -1074 ≤ fsc 46 v ∧ fsc 46 v ≤ 972 := fsc_rng
  unfold twhV
  have start := z_isNo (d := d + 2) (v := v) (S := ZS σ rv f) hv
  by_cases c1 : infN < fsz 46 v
  · rw [if_pos c1] at start ⊢
    exact ⟨rv, f, hB, rfl, b132_0 start (b132_4 (fun z => absurd z (by decide)) (fun _ => b132_7))⟩
  rw [if_neg c1] at start ⊢
  have ti := z_isInf (d := d + 2) (v := v) (S := ZS σ rv f) hv
  by_cases c2 : fsz 46 v = infN
  · rw [if_pos c2] at ti
    have h0 : 0 ≤ fsc 46 v := by
      have h1 := inf_ex v
      have h2 : infN = 2047 * 4503599627370496 := rfl
      have h3 : v % 2 ^ 52 < 4503599627370496 := Nat.mod_lt _ (by decide)
      have h4 := fsc46 v
      rw [h4]
      split <;> omega
    rw [if_pos h0]
    exact ⟨rv, f, hB, rfl, b132_0 start (b132_4 (fun _ => b132_11 ti (b132_15 (fun _ => b132_25) (fun z => absurd z (by decide)))) (fun z => absurd rfl z))⟩
  rw [if_neg c2] at ti
  have tp := z_place (d := d + 2) (v := v) (S := ZS σ rv f) hv
  have zc : iZ (fsc 46 v) < 0 ↔ fsc 46 v < 0 := by
    rw [iZ0]
    exact iZ_lt (by omega) (by omega) (by decide) (by decide)
  by_cases c3 : 0 ≤ fsc 46 v
  · rw [if_pos c3]
    exact ⟨rv, f, hB, rfl, b132_0 start (b132_4 (fun _ => b132_11 ti (b132_15 (fun z => absurd rfl z) (fun _ => b132_18 tp (b132_22 (fun z => absurd (zc.mp z) (by omega)) (fun _ => b132_25))))) (fun z => absurd rfl z))⟩
  rw [if_neg c3]
  obtain ⟨k, hk⟩ : ∃ k, k = (-(fsc 46 v)).toNat := ⟨_, rfl⟩
  rw [← hk]
  have tf := z_front (d := d + 1) (σ := σ) (rv := rv) (f := f) (v := v) (k := k) hv (by omega) (by omega)
  have hm53 := fsi_53 (n := v)
  obtain ⟨m, hm⟩ : ∃ m, m = fsi 46 v := ⟨_, rfl⟩
  rw [← hm] at tf hm53 ⊢
  have g9 : gfi (ZS σ rv (upi f 9 (rcode m k))) 1 9 = rcode m k := by rw [ZS_get (by decide), upi_s]
  obtain ⟨f1, f2, f3⟩ := @rcode_f m k
  have hr := rndQ_le (dir := dir) (neg := sgB v) (N := m) (D := 2 ^ k)
  have hup := @rndQ_up dir (sgB v) m (2 ^ k)
  have hno := @rndQ_no dir (sgB v) m (2 ^ k)
  unfold upQ at hup hno
  have eH : 2 ^ k = 2 * 2 ^ (k - 1) := by
    rw [← Nat.pow_succ']
    congr 1
    omega
  have hH := Nat.two_pow_pos (k - 1)
  obtain ⟨H, hHH⟩ : ∃ H, H = 2 ^ (k - 1) := ⟨_, rfl⟩
  obtain ⟨q, hq⟩ : ∃ q, q = m / 2 ^ k := ⟨_, rfl⟩
  obtain ⟨r, hrr⟩ : ∃ r, r = m % 2 ^ k := ⟨_, rfl⟩
  obtain ⟨R, hR⟩ : ∃ R, R = rndQ dir (sgB v) m (2 ^ k) := ⟨_, rfl⟩
  have q53 : q ≤ m := by rw [hq]; exact Nat.div_le_self _ _
  rw [← hR, ← hq, ← hrr, eH, ← hHH] at hup hno
  rw [← hR, ← hq] at hr
  rw [← hrr, ← hHH] at f2 f3
  rw [← hrr] at f1
  rw [← hHH] at hH
  rw [← hq] at tf
  rw [← hR]
  have R60 : R < 2 ^ 60 := by
    have : (2 : Nat) ^ 53 + 1 < 2 ^ 60 := by decide
    omega
  obtain ⟨rv2, f4, B2, e0, hs⟩ := z_sca (d := d) (x := 46) (m := R) (z := 0) O46 R60 (by decide) (by decide) σ rv (upi f 9 (rcode m k)) hB
  rw [if_pos rfl] at hs
  refine ⟨rv2, f4, B2, e0, b132_0 start (b132_4 (fun _ => b132_11 ti (b132_15 (fun z => absurd rfl z) (fun _ => b132_18 tp (b132_22 (fun _ => b132_27 k1 tf ?_) (fun z => absurd (zc.mpr (by omega)) z))))) (fun z => absurd rfl z))⟩
  have fin : ∀ (g : Int32), (g = 1 ∧ R = q + 1) ∨ (g = 0 ∧ R = q) → Er (d + 5) 132 (116, [some (.ref 1), some (.int (nI kind)), some (.long (lN v)), none, some (.long (lN q)), none, none], [.int g], ZS σ rv (upi f 9 (rcode m k))) (.inl (some (.long (lN (ew 46 (sgB v) R 0)))), ZS σ rv2 f4, 0) := by
    intro g hg
    have last : ∀ {x4 : Int64} {x6 : Int32}, Er (d + 5) 132 (141, [some (.ref 1), some (.int (nI kind)), some (.long (lN v)), none, some (.long x4), none, some (.int x6)], [.long (lN (ew 46 false R 0))], ZS σ rv2 f4) (.inl (some (.long (lN (ew 46 (sgB v) R 0)))), ZS σ rv2 f4, 0) := by
      intro x4 x6
      have t := b132_141 (d := d + 4) (x0 := 1) (x1 := nI kind) (x2 := lN v) (x4 := x4) (x6 := x6) (s0 := lN (ew 46 false R 0)) (σ := ZS σ rv2 f4)
      rw [ew_or hv] at t
      exact t
    rcases hg with ⟨g1, gR⟩ | ⟨g1, gR⟩
    · have z1 : lN q + 1 = lN R := by rw [gR]; exact lN_add q 1
      refine b132_116 (fun z => absurd (g1.symm.trans z) (by decide)) (fun _ => b132_125 (b132_130 (r := lN (ew 46 false R 0)) (σ2 := ZS σ rv2 f4) k1 ?_ last))
      rw [z1]
      exact hs
    · have z1 : lN q + 0 = lN R := by rw [gR]; exact lN_add q 0
      refine b132_116 (fun _ => b132_129 (b132_130 (r := lN (ew 46 false R 0)) (σ2 := ZS σ rv2 f4) k1 ?_ last)) (fun z => absurd g1 z)
      rw [z1]
      exact hs
  rcases hkd with ⟨rfl, rfl⟩ | ⟨rfl, rfl⟩ | ⟨rfl, rfl⟩
  · -- down
    refine b132_32 (fun z => absurd rfl z) (fun _ => b132_39 (fun z => b132_56 (fin _ (Or.inr ⟨rfl, hno ?_⟩))) (fun z => b132_45 k1 (fun y => b132_56 (fin _ (Or.inr ⟨rfl, hno ?_⟩))) (fun y => b132_52 (fin _ (Or.inl ⟨rfl, hup ?_⟩)))))
    · rw [sgB_neg hv] at z
      rintro (⟨a, _⟩ | ⟨_, ⟨a, _⟩ | ⟨_, a⟩⟩)
      · exact absurd a (by decide)
      · exact absurd a (by decide)
      · exact z a
    · rw [g9, f1] at y
      rintro (⟨a, _⟩ | ⟨a, _⟩)
      · exact absurd a (by decide)
      · exact a y
    · rw [g9, f1] at y
      rw [sgB_neg hv] at z
      exact Or.inr ⟨y, Or.inr ⟨rfl, z⟩⟩
  · -- up
    refine b132_32 (fun _ => b132_60 (fun z => absurd rfl z) (fun _ => b132_65 (fun z => b132_82 (fin _ (Or.inr ⟨rfl, hno ?_⟩))) (fun z => b132_71 k1 (fun y => b132_82 (fin _ (Or.inr ⟨rfl, hno ?_⟩))) (fun y => b132_78 (fin _ (Or.inl ⟨rfl, hup ?_⟩)))))) (fun z => absurd z (by decide))
    · rw [sgB_neg hv] at z
      rintro (⟨a, _⟩ | ⟨_, ⟨_, a⟩ | ⟨a, _⟩⟩)
      · exact absurd a (by decide)
      · rw [z] at a
        exact absurd a (by decide)
      · exact absurd a (by decide)
    · rw [g9, f1] at y
      rintro (⟨a, _⟩ | ⟨a, _⟩)
      · exact absurd a (by decide)
      · exact a y
    · rw [g9, f1] at y
      rw [sgB_neg hv] at z
      exact Or.inr ⟨y, Or.inl ⟨rfl, by cases h : sgB v with | false => rfl | true => exact absurd h z⟩⟩
  · -- to the even
    have no2 : ¬ (2 * H < 2 * r ∨ (2 * r = 2 * H ∧ q % 2 = 1)) → R = q := by
      intro z
      refine hno ?_
      rintro (⟨_, a⟩ | ⟨_, ⟨a, _⟩ | ⟨a, _⟩⟩)
      · exact z a
      · exact absurd a (by decide)
      · exact absurd a (by decide)
    refine b132_32 (fun _ => b132_60 (fun _ => b132_86 k1 (fun z => b132_111 (fin _ (Or.inl ⟨rfl, hup (Or.inl ⟨rfl, Or.inl ?_⟩)⟩))) (fun z => b132_94 k1 (fun y => b132_115 (fin _ (Or.inr ⟨rfl, no2 ?_⟩))) (fun y => b132_102 (fun u => b132_115 (fin _ (Or.inr ⟨rfl, no2 ?_⟩))) (fun u => b132_111 (fin _ (Or.inl ⟨rfl, hup (Or.inl ⟨rfl, Or.inr ?_⟩)⟩)))))) (fun z => absurd z (by decide))) (fun z => absurd z (by decide))
    · rw [g9, f2] at z
      omega
    · rw [g9, f2] at z
      rw [g9, f3] at y
      omega
    · rw [g9, f2] at z
      rw [odd_N] at u
      omega
    · rw [g9, f3] at y
      rw [odd_N] at u
      exact ⟨by omega, u⟩
theorem z_rem (hv : v < 2 ^ 64) (hw : w < 2 ^ 64) : Zx (d + 5) 130 [.ref 1, .long (lN v), .long (lN w)] (.long (lN (rmV v w))) := by
  intro σ rv f hB
  unfold rmV
  have hcv : -1074 ≤ fsc 46 v ∧ fsc 46 v ≤ 972 := fsc_rng
  have hcw : -1074 ≤ fsc 46 w ∧ fsc 46 w ≤ 972 := fsc_rng
  have n1 := z_isNo (d := d + 2) (v := v) (S := ZS σ rv f) hv
  have n2 := z_isNo (d := d + 2) (v := w) (S := ZS σ rv f) hw
  have i1 := z_isInf (d := d + 2) (v := v) (S := ZS σ rv f) hv
  have i2 := z_isInf (d := d + 2) (v := w) (S := ZS σ rv f) hw
  by_cases c1 : infN < fsz 46 v
  · rw [if_pos (Or.inl (Or.inl c1))]
    rw [if_pos c1] at n1
    exact ⟨rv, f, hB, rfl, b130_0 n1 (b130_4 (fun _ => b130_37) (fun z => absurd z (by decide)))⟩
  rw [if_neg c1] at n1
  by_cases c2 : infN < fsz 46 w
  · rw [if_pos (Or.inl (Or.inr c2))]
    rw [if_pos c2] at n2
    exact ⟨rv, f, hB, rfl, b130_0 n1 (b130_4 (fun z => absurd rfl z) (fun _ => b130_7 n2 (b130_11 (fun _ => b130_37) (fun z => absurd z (by decide)))))⟩
  rw [if_neg c2] at n2
  by_cases c3 : fsz 46 v = infN
  · rw [if_pos (Or.inr (Or.inl (by omega)))]
    rw [if_pos c3] at i1
    exact ⟨rv, f, hB, rfl, b130_0 n1 (b130_4 (fun z => absurd rfl z) (fun _ => b130_7 n2 (b130_11 (fun z => absurd rfl z) (fun _ => b130_14 i1 (b130_18 (fun _ => b130_37) (fun z => absurd z (by decide)))))))⟩
  rw [if_neg c3] at i1
  have start : ∀ {q : Rs}, Er (d + 5) 130 (21, [some (.ref 1), some (.long (lN v)), none, some (.long (lN w)), none, none, none, none, none, none, none, none, none, none], [], ZS σ rv f) q → Er (d + 5) 130 (0, ent 130 [.ref 1, .long (lN v), .long (lN w)], [], ZS σ rv f) q := fun hq =>
    b130_0 n1 (b130_4 (fun z => absurd rfl z) (fun _ => b130_7 n2 (b130_11 (fun z => absurd rfl z) (fun _ => b130_14 i1 (b130_18 (fun z => absurd rfl z) (fun _ => hq))))))
  have fv53 := fsi_53 (n := v)
  have fw53 := fsi_53 (n := w)
  have w0 := fsi_0 (x := 46) (n := w) O46
  have tf := z_fac (d := d + 2) (v := w) (S := ZS σ rv f) hw
  have tfv := z_fac (d := d + 2) (v := v) (S := ZS σ rv f) hv
  have tpv := z_place (d := d + 2) (v := v) (S := ZS σ rv f) hv
  have tpw := z_place (d := d + 2) (v := w) (S := ZS σ rv f) hw
  have wz : lN (fsi 46 w) = 0 ↔ fsi 46 w = 0 := lN_inj (b := 0) (Nat.lt_trans fw53 (by decide)) (by decide)
  by_cases c4 : fsi 46 w = 0
  · have z0 := w0.mp c4
    rw [if_pos (Or.inr (Or.inr z0))]
    rw [if_neg (by rw [z0]; decide)] at i2
    exact ⟨rv, f, hB, rfl, start (b130_21 tf (b130_25 (fun z => absurd (wz.mpr c4) z) (fun _ => b130_30 i2 (b130_34 (fun z => absurd rfl z) (fun _ => b130_37)))))⟩
  rw [if_neg (by
    have : fsz 46 w ≠ 0 := fun e => c4 (w0.mpr e)
    omega)]
  by_cases c5 : fsz 46 w = infN
  · rw [if_pos (by omega)]
    rw [if_pos c5] at i2
    exact ⟨rv, f, hB, rfl, start (b130_21 tf (b130_25 (fun _ => b130_41 i2 (b130_45 (fun z => absurd z (by decide)) (fun _ => b130_48))) (fun z => absurd (wz.mp z) c4)))⟩
  rw [if_neg c5] at i2
  have self := ew_self hv (by omega)
  have es : iZ (fsc 46 v) - iZ (fsc 46 w) = iZ (fsc 46 v - fsc 46 w) := iZ_sub _ _
  -- to the place of the difference
  have start2 : ∀ {q : Rs}, Er (d + 5) 130 (81, [some (.ref 1), some (.long (lN v)), none, some (.long (lN w)), none, some (.long (lN (fsi 46 v))), none, some (.long (lN (fsi 46 w))), none, some (.int (iZ (fsc 46 v - fsc 46 w))), some (.long (lN (fsi 46 v))), none, none, none], [.int (iZ (fsc 46 v))], ZS σ rv f) q → Er (d + 5) 130 (0, ent 130 [.ref 1, .long (lN v), .long (lN w)], [], ZS σ rv f) q := by
    intro q hq
    refine start (b130_21 tf (b130_25 (fun _ => b130_41 i2 (b130_45 (fun _ => b130_50 tfv (b130_54 tf (b130_60 tpv (b130_66 tpw (b130_70 tpv ?_))))) (fun z => absurd rfl z))) (fun z => absurd (wz.mp z) c4)))
    rw [es]
    exact hq
  have dlt : iZ (fsc 46 v - fsc 46 w) < 0 ↔ fsc 46 v - fsc 46 w < 0 := by
    rw [iZ0]
    exact iZ_lt (by omega) (by omega) (by decide) (by decide)
  have fin : ∀ {r : Nat} {z : Int} {x9 : Int32} {o13 : Option Value}, r < 2 ^ 53 → -1074 ≤ z → z ≤ 972 → ∃ rv2 f2, BM rv2 ∧ f2 0 = f 0 ∧ Er (d + 5) 130 (163, [some (.ref 1), some (.long (lN v)), none, some (.long (lN w)), none, some (.long (lN (fsi 46 v))), none, some (.long (lN (fsi 46 w))), none, some (.int x9), some (.long (lN r)), none, some (.int (iZ z)), o13], [], ZS σ rv f) (.inl (some (.long (lN (ew 46 (sgB v) r z)))), ZS σ rv2 f2, 0) := by
    intro r z x9 o13 hr hz1 hz2
    obtain ⟨rv2, f4, B2, e0, hs⟩ := z_sca (d := d) (x := 46) (m := r) (z := z) O46 (Nat.lt_trans hr (by decide)) (by omega) (by omega) σ rv f hB
    rw [if_pos rfl] at hs
    refine ⟨rv2, f4, B2, e0, b130_163 k1 hs ?_⟩
    have t := b130_172 (d := d + 4) (x0 := 1) (x1 := lN v) (x3 := lN w) (x5 := lN (fsi 46 v)) (x7 := lN (fsi 46 w)) (x9 := x9) (x10 := lN r) (x12 := iZ z) (o13 := o13) (s0 := lN (ew 46 false r z)) (σ := ZS σ rv2 f4)
    rw [ew_or hv] at t
    exact t
  by_cases c6 : fsc 46 v - fsc 46 w < 0
  · -- the lesser place
    have hlt : fsz 46 v < fsz 46 w := by
      apply Nat.lt_of_not_le
      intro e
      have := fsc_mono e
      omega
    rw [if_pos hlt]
    obtain ⟨rv2, f2, B2, e0, hf⟩ := fin (r := fsi 46 v) (z := fsc 46 v) (x9 := iZ (fsc 46 v - fsc 46 w)) (o13 := none) fv53 hcv.1 hcv.2
    rw [self] at hf
    refine ⟨rv2, f2, B2, e0, start2 (b130_81 (fun _ => ?_) (fun z => absurd (dlt.mpr c6) z))⟩
    obtain ⟨k, hk⟩ : ∃ k, k = (fsc 46 w - fsc 46 v).toNat := ⟨_, rfl⟩
    have en : -iZ (fsc 46 v - fsc 46 w) = nI k := by
      rw [iZ_neg, ← iZ_N]
      congr 1
      omega
    refine b130_131 (fun _ => hf) (fun z => b130_139 (fun _ => hf) (fun y => ?_))
    rw [en] at z
    have k53 : k < 53 := by
      apply Nat.lt_of_not_le
      intro e
      exact z (nI_le (a := 53) e (by omega))
    have e53 : (53 : Int32) + iZ (fsc 46 v - fsc 46 w) = nI (53 - k) := by
      rw [show (53 : Int32) = iZ 53 by decide, iZ_add, ← iZ_N]
      congr 1
      omega
    have p53 : 2 ^ (53 - k) < 2 ^ 63 := pw_lt (by omega)
    rw [e53, one_shl (by omega), ltN (Nat.lt_trans fw53 (by decide)) p53] at y
    have hsh : lN (fsi 46 w) <<< ((-iZ (fsc 46 v - fsc 46 w)).toInt64 &&& 63) = lN (fsi 46 w * 2 ^ k) := by
      rw [en]
      exact shl_N (s := nI k) k rfl (by omega)
    have hnp : 0 < fsi 46 w * 2 ^ k := Nat.mul_pos (by omega) (Nat.two_pow_pos _)
    have hnl : fsi 46 w * 2 ^ k < 2 ^ 53 := mp_lt (k := 53 - k) y (by omega)
    -- a number of a greater place is a greater number
    have big : fsi 46 v < fsi 46 w * 2 ^ k := by
      have h4 := fsc46 w
      have h5 := fsc46 v
      have h6 : fex 46 w ≠ 0 := by
        intro e
        rw [if_pos e] at h4
        omega
      have h7 : 4503599627370496 ≤ fsi 46 w := by
        unfold fsi
        rw [if_neg h6]
        show 4503599627370496 ≤ 2 ^ 52 + w % 2 ^ 52
        omega
      have h8 : 2 ≤ 2 ^ k := by
        have := Nat.pow_le_pow_right (n := 2) (by decide) (show 1 ≤ k by omega)
        omega
      have h9 : 4503599627370496 * 2 ≤ fsi 46 w * 2 ^ k := Nat.mul_le_mul h7 h8
      have h10 : (2 : Nat) ^ 53 = 4503599627370496 * 2 := by decide
      omega
    have nz : ¬ lN (fsi 46 w * 2 ^ k) = 0 := by
      intro e
      have := (lN_inj (b := 0) (Nat.lt_trans hnl (by decide)) (by decide)).mp e
      omega
    have rm : lN (fsi 46 v) - lN (fsi 46 v) / lN (fsi 46 w * 2 ^ k) * lN (fsi 46 w * 2 ^ k) = lN (fsi 46 v) := by
      rw [pk_lRem (Nat.lt_trans fv53 (by decide)) hnp (Nat.lt_trans hnl (by decide)), Nat.mod_eq_of_lt big]
    refine b130_152 (by rw [hsh]; exact nz) ?_
    rw [hsh, rm]
    exact hf
  · -- turned to the place of the divisor
    obtain ⟨t, ht⟩ : ∃ t, t = (fsc 46 v - fsc 46 w).toNat := ⟨_, rfl⟩
    have en : iZ (fsc 46 v - fsc 46 w) = nI t := by
      rw [← iZ_N]
      congr 1
      omega
    obtain ⟨nn, hnn⟩ : ∃ nn, nn = fsi 46 w := ⟨_, rfl⟩
    obtain ⟨m, hm⟩ : ∃ m, m = fsi 46 v := ⟨_, rfl⟩
    have rlt : m * 2 ^ t % nn < 2 ^ 53 := Nat.lt_trans (Nat.mod_lt _ (by omega)) (by rw [hnn]; exact fw53)
    have res : (if fsz 46 v < fsz 46 w then v else ew 46 (sgB v) (fsi 46 v * 2 ^ (fsc 46 v - fsc 46 w).toNat % fsi 46 w) (fsc 46 w)) = ew 46 (sgB v) (m * 2 ^ t % nn) (fsc 46 w) := by
      by_cases c7 : fsz 46 v < fsz 46 w
      · rw [if_pos c7]
        have hmo := fsc_mono (Nat.le_of_lt c7)
        have e1 : fsc 46 v = fsc 46 w := by omega
        have t0 : t = 0 := by omega
        have h1 := inf_ex v
        have h2 := inf_ex w
        have h3 := fsc46 v
        have h4 := fsc46 w
        have mlt : m < nn := by
          rw [hm, hnn]
          have p1 : v % 2 ^ 52 < 4503599627370496 := Nat.mod_lt _ (by decide)
          have p2 : w % 2 ^ 52 < 4503599627370496 := Nat.mod_lt _ (by decide)
          unfold fsi
          show (if fex 46 v = 0 then v % 2 ^ 52 else 4503599627370496 + v % 2 ^ 52) < (if fex 46 w = 0 then w % 2 ^ 52 else 4503599627370496 + w % 2 ^ 52)
          by_cases q1 : fex 46 v = 0 <;> by_cases q2 : fex 46 w = 0
          · rw [if_pos q1, if_pos q2]
            rw [q1] at h1
            rw [q2] at h2
            omega
          · rw [if_pos q1, if_neg q2]
            omega
          · rw [if_neg q1] at h3
            rw [if_pos q2] at h4
            omega
          · rw [if_neg q1, if_neg q2]
            rw [if_neg q1] at h3
            rw [if_neg q2] at h4
            have : fex 46 v = fex 46 w := by omega
            rw [this] at h1
            omega
        rw [t0, Nat.pow_zero, Nat.mul_one, Nat.mod_eq_of_lt mlt, ← e1, hm, self]
      · rw [if_neg c7, hm, hnn, ht]
    rw [res]
    have self53 : nn < 2 ^ 53 := by rw [hnn]; exact fw53
    have m53 : m < 2 ^ 53 := by rw [hm]; exact fv53
    have nn0 : 0 < nn := by omega
    have nz : ¬ lN nn = 0 := by
      intro e
      have := (lN_inj (b := 0) (Nat.lt_trans self53 (by decide)) (by decide)).mp e
      omega
    obtain ⟨rv2, f2, B2, e0, hf⟩ := fin (r := m * 2 ^ t % nn) (z := fsc 46 w) (x9 := nI t) (o13 := some (.int (nI t))) rlt hcw.1 hcw.2
    refine ⟨rv2, f2, B2, e0, start2 (b130_81 (fun z => absurd (dlt.mp z) c6) (fun _ => b130_88 (by rw [← hnn]; exact nz) ?_))⟩
    rw [← hm, ← hnn, en, pk_lRem (Nat.lt_trans m53 (by decide)) nn0 (Nat.lt_trans self53 (by decide))]
    rw [← hm, ← hnn] at hf
    have loop : ∀ j i, i + j = t → Er (d + 5) 130 (98, [some (.ref 1), some (.long (lN v)), none, some (.long (lN w)), none, some (.long (lN m)), none, some (.long (lN nn)), none, some (.int (nI t)), some (.long (lN (m * 2 ^ i % nn))), none, some (.int (iZ (fsc 46 v))), some (.int (nI i))], [], ZS σ rv f) (.inl (some (.long (lN (ew 46 (sgB v) (m * 2 ^ t % nn) (fsc 46 w))))), ZS σ rv2 f2, 0) := by
      intro j
      induction j with
      | zero =>
        intro i hi
        rw [Nat.add_zero] at hi
        subst hi
        exact b130_98 (fun _ => b130_122 tpw (b130_126 hf)) (fun z => absurd (Int32.le_refl _) z)
      | succ j ih =>
        intro i hi
        refine b130_98 (fun z => absurd z (nI_ge (by omega) (by omega))) (fun _ => b130_105 nz ?_)
        have h2 : (2 : Int64) * lN (m * 2 ^ i % nn) = lN (2 * (m * 2 ^ i % nn)) := lN_mul 2 _
        have hl : m * 2 ^ i % nn < nn := Nat.mod_lt _ nn0
        have h63 : (2 : Nat) ^ 53 * 2 < 2 ^ 63 := by decide
        have e3 : 2 * (m * 2 ^ i % nn) % nn = m * 2 ^ (i + 1) % nn := by
          rw [Nat.mul_mod_mod, Nat.pow_succ, ← Nat.mul_assoc m, Nat.mul_comm 2]
        rw [h2, pk_lRem (by omega) nn0 (Nat.lt_trans self53 (by decide)), e3, nI_1]
        exact ih (i + 1) (by omega)
    have l0 := loop t 0 (by omega)
    rw [Nat.pow_zero, Nat.mul_one] at l0
    exact l0
end
