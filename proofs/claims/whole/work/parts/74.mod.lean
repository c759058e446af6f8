/-! the reference: machine -/
theorem rank_inj {v w : Nat} (hv : v < 2 ^ 64) (hw : w < 2 ^ 64) : rankZ v = rankZ w ↔ v = w := by
  constructor
  · intro h
    have h1 := v_split hv
    have h2 := v_split hw
    unfold rankZ at h
    cases e1 : sgB v <;> cases e2 : sgB w <;> rw [e1] at h h1 <;> rw [e2] at h h2
    · have : (fsz 46 v : Int) = fsz 46 w := h
      rw [h1, h2]
      congr 1
      omega
    · have : (fsz 46 v : Int) = -(fsz 46 w : Int) - 1 := h
      omega
    · have : -(fsz 46 v : Int) - 1 = (fsz 46 w : Int) := h
      omega
    · have : -(fsz 46 v : Int) - 1 = -(fsz 46 w : Int) - 1 := h
      rw [h1, h2]
      congr 1
      omega
  · intro h
    rw [h]
theorem shl1_0 {v : Nat} : lN v <<< ((1 : Int32).toInt64 &&& 63) = 0 ↔ fsz 46 v = 0 := by
  rw [shl_N (s := 1) 1 rfl (by decide), ← lN_mod]
  have h : v * 2 ^ 1 % 2 ^ 64 < 2 ^ 64 := Nat.mod_lt _ (by decide)
  have h2 : lN (v * 2 ^ 1 % 2 ^ 64) = 0 ↔ v * 2 ^ 1 % 2 ^ 64 = 0 := lN_inj (b := 0) h (by decide)
  rw [h2]
  show _ ↔ v % 9223372036854775808 = 0
  simp only [Nat.reducePow]
  omega
section
variable {d n v w : Nat} {σ : St} {rv : Nat → Nat} {f : Nat → Int32} {S : St}
theorem z_mm {k : Nat} (hk : 6 ≤ k) (hk2 : k ≤ 10) (hv : v < 2 ^ 64) (hw : w < 2 ^ 64) : Zx (d + 5) 135 [.ref 1, .int (nI k), .long (lN v), .long (lN w)] (.long (macV k v w)) := by
  intro σ rv f hB
  have hcv : -1074 ≤ fsc 46 v ∧ fsc 46 v ≤ 972 := fsc_rng
  have fv53 := fsi_53 (n := v)
  have n1 := z_isNo (d := d + 2) (v := v) (S := ZS σ rv f) hv
  have n2 := z_isNo (d := d + 2) (v := w) (S := ZS σ rv f) hw
  have i1 := z_isInf (d := d + 2) (v := v) (S := ZS σ rv f) hv
  have hs := v_split hv
  have sn := sgB_neg hv
  rcases (show k = 6 ∨ k = 7 ∨ k = 8 ∨ k = 9 ∨ k = 10 by omega) with rfl | rfl | rfl | rfl | rfl
  · -- with the sign of the other
    have e : macV 6 v w = lN (wsgV v w) := rfl
    rw [e]
    unfold wsgV
    have dp : tsw 1 233 6 9 #[31, 57, 116, 153] (nI 6).toInt = 32 := by decide
    refine ⟨rv, f, hB, rfl, b135_0 ?_⟩
    rw [dp]
    by_cases c : infN < fsz 46 v
    · rw [if_pos c] at n1 ⊢
      exact b135_32 n1 (b135_36 (fun z => absurd z (by decide)) (fun _ => b135_39 b135_57))
    · rw [if_neg c] at n1 ⊢
      refine b135_32 n1 (b135_36 (fun _ => b135_45 ?_) (fun z => absurd rfl z))
      rw [and_max, or_sgn hw (fsz_63 O46)]
      exact b135_57
  · -- the next
    have e : macV 7 v w = naV v := rfl
    rw [e]
    unfold naV
    have dp : tsw 1 233 6 9 #[31, 57, 116, 153] (nI 7).toInt = 58 := by decide
    refine ⟨rv, f, hB, rfl, b135_0 ?_⟩
    rw [dp]
    have s63 := fsz_63 (x := 46) (n := v) O46
    have hi : infN < 2 ^ 63 := by decide
    have eI : lN v = 9218868437227405312 ↔ v = infN := lN_inj (b := infN) hv (by decide)
    have e0 : lN v = 0 ↔ v = 0 := lN_inj (b := 0) hv (by decide)
    have eS : lN v = -9223372036854775808 ↔ v = 2 ^ 63 := by
      rw [show (-9223372036854775808 : Int64) = lN (2 ^ 63) by decide]
      exact lN_inj hv (by decide)
    by_cases c : infN < fsz 46 v
    · rw [if_pos c] at n1 ⊢
      exact b135_58 n1 (b135_62 (fun z => absurd z (by decide)) (fun _ => b135_65 b135_116))
    · rw [if_neg c] at n1 ⊢
      refine b135_58 n1 (b135_62 (fun _ => ?_) (fun z => absurd rfl z))
      have hb0 : sbit 46 false = 0 := rfl
      have hb1 : sbit 46 true = 2 ^ 63 := rfl
      have hz : fsz 46 v = 0 ↔ v = 0 ∨ v = 2 ^ 63 := by
        cases eb : sgB v <;> rw [eb] at hs
        · rw [hb0] at hs
          constructor
          · intro z; left; omega
          · rintro (z | z)
            · omega
            · omega
        · rw [hb1] at hs
          constructor
          · intro z; right; omega
          · rintro (z | z)
            · omega
            · omega
      by_cases c0 : fsz 46 v = 0
      · rw [if_pos c0]
        have ni : v ≠ infN := by
          intro y
          rcases hz.mp c0 with z | z
          · rw [z] at y
            exact absurd y (by decide)
          · rw [z] at y
            exact absurd y (by decide)
        refine b135_71 (fun _ => b135_83 (fun _ => b135_97 b135_116) (fun y => b135_89 (fun u => ?_) (fun _ => b135_97 b135_116))) (fun z => absurd (eI.mp z) ni)
        rcases hz.mp c0 with z | z
        · exact absurd (e0.mpr z) y
        · exact absurd (eS.mpr z) u
      · rw [if_neg c0]
        have nz0 : ¬ lN v = 0 := fun z => c0 (hz.mpr (Or.inl (e0.mp z)))
        have nzS : ¬ lN v = -9223372036854775808 := fun z => c0 (hz.mpr (Or.inr (eS.mp z)))
        cases eb : sgB v with
        | true =>
          rw [if_pos rfl]
          rw [eb, hb1] at hs
          rw [eb] at sn
          have ni : v ≠ infN := by omega
          exact b135_71 (fun _ => b135_83 (fun z => absurd z nz0) (fun _ => b135_89 (fun _ => b135_101 (fun z => absurd (sn.mpr rfl) z) (fun _ => b135_107 b135_116)) (fun z => absurd z nzS))) (fun z => absurd (eI.mp z) ni)
        | false =>
          rw [if_neg (by decide)]
          rw [eb] at sn
          by_cases ci : v = infN
          · rw [if_pos ci]
            exact b135_71 (fun z => absurd (eI.mpr ci) z) (fun _ => b135_79 b135_116)
          · rw [if_neg ci]
            exact b135_71 (fun _ => b135_83 (fun z => absurd z nz0) (fun _ => b135_89 (fun _ => b135_101 (fun _ => b135_113 b135_116) (fun z => absurd (sn.mp z) (by decide))) (fun z => absurd z nzS))) (fun z => absurd (eI.mp z) ci)
  · -- the step
    have e : macV 8 v w = lN (stV v) := rfl
    rw [e]
    unfold stV
    have dp : tsw 1 233 6 9 #[31, 57, 116, 153] (nI 8).toInt = 117 := by decide
    have tp := z_place (d := d + 2) (v := v) (S := ZS σ rv f) hv
    obtain ⟨rv2, f4, B2, e0, hsc⟩ := z_sca (d := d) (x := 46) (m := 1) (z := fsc 46 v) O46 (by decide) (by omega) (by omega) σ rv f hB
    rw [if_pos rfl] at hsc
    by_cases c : infN < fsz 46 v
    · rw [if_pos c] at n1 ⊢
      refine ⟨rv, f, hB, rfl, b135_0 ?_⟩
      rw [dp]
      exact b135_117 n1 (b135_121 (fun z => absurd z (by decide)) (fun _ => b135_124 b135_153))
    · rw [if_neg c] at n1 ⊢
      by_cases c2 : fsz 46 v = infN
      · rw [if_pos c2] at i1
        rw [if_neg (by omega)]
        refine ⟨rv, f, hB, rfl, b135_0 ?_⟩
        rw [dp]
        exact b135_117 n1 (b135_121 (fun _ => b135_130 i1 (b135_134 (fun z => absurd z (by decide)) (fun _ => b135_137 b135_153))) (fun z => absurd rfl z))
      · rw [if_neg c2] at i1
        rw [if_pos (by omega)]
        refine ⟨rv2, f4, B2, e0, b135_0 ?_⟩
        rw [dp]
        exact b135_117 n1 (b135_121 (fun _ => b135_130 i1 (b135_134 (fun _ => b135_143 tp (b135_149 k1 hsc b135_153)) (fun z => absurd rfl z))) (fun z => absurd rfl z))
  · -- times a power of two
    have e : macV 9 v w = lN (twV v (lN w)) := rfl
    rw [e]
    unfold twV
    have dp : tsw 1 233 6 9 #[31, 57, 116, 153] (nI 9).toInt = 154 := by decide
    have tp := z_place (d := d + 2) (v := v) (S := ZS σ rv f) hv
    have tf := z_fac (d := d + 2) (v := v) (S := ZS σ rv f) hv
    have hc1 : -3000 ≤ clN (lN w) ∧ clN (lN w) ≤ 3000 := by
      unfold clN
      omega
    obtain ⟨rv2, f4, B2, e0, hsc⟩ := z_sca (d := d) (x := 46) (m := fsi 46 v) (z := fsc 46 v + clN (lN w)) O46 (Nat.lt_trans fv53 (by decide)) (by omega) (by omega) σ rv f hB
    rw [if_pos rfl] at hsc
    by_cases c : infN < fsz 46 v
    · rw [if_pos c] at n1 ⊢
      refine ⟨rv, f, hB, rfl, b135_0 ?_⟩
      rw [dp]
      exact b135_154 n1 (b135_158 (fun z => absurd z (by decide)) (fun _ => b135_161))
    · rw [if_neg c] at n1 ⊢
      have clamp : ∀ {q : Rs}, Er (d + 5) 135 (198, [some (.ref 1), some (.int (nI 9)), some (.long (lN v)), none, some (.long (lN w)), none, none, none], [.int (iZ (clN (lN w)))], ZS σ rv f) q → Er (d + 5) 135 (0, ent 135 [.ref 1, .int (nI 9), .long (lN v), .long (lN w)], [], ZS σ rv f) q := by
        intro q hq
        refine b135_0 ?_
        rw [dp]
        have l1 : lN w < -3000 ↔ (lN w).toInt < -3000 := by
          rw [l_lt]
          exact Iff.rfl
        have l2 : (3000 : Int64) < lN w ↔ 3000 < (lN w).toInt := by
          rw [l_lt]
          exact Iff.rfl
        refine b135_154 n1 (b135_158 (fun _ => b135_165 (fun z => b135_180 (fun y => b135_195 ?_) (fun y => b135_189 ?_)) (fun z => b135_174 ?_)) (fun z => absurd rfl z))
        · rw [l1] at z
          rw [l2] at y
          have e1 : (lN w).toInt32 = iZ (clN (lN w)) := by
            have h1 : clN (lN w) = (lN w).toInt := by
              unfold clN
              omega
            rw [h1, ← lZ_i, lZ_s]
          rw [e1]
          exact hq
        · rw [l2] at y
          have h1 : clN (lN w) = 3000 := by
            unfold clN
            omega
          rw [h1] at hq
          exact hq
        · rw [l1] at z
          have h1 : clN (lN w) = -3000 := by
            unfold clN
            omega
          rw [h1] at hq
          exact hq
      by_cases c2 : fsz 46 v = infN
      · rw [if_pos c2] at i1
        rw [if_neg (by omega)]
        exact ⟨rv, f, hB, rfl, clamp (b135_198 i1 (b135_204 (fun z => absurd z (by decide)) (fun _ => b135_207 b135_233)))⟩
      · rw [if_neg c2] at i1
        rw [if_pos (by omega)]
        refine ⟨rv2, f4, B2, e0, clamp (b135_198 i1 (b135_204 (fun _ => b135_211 tf (b135_216 tp (b135_220 (r := lN (ew 46 false (fsi 46 v) (fsc 46 v + clN (lN w)))) (σ2 := ZS σ rv2 f4) k1 ?_ (b135_227 ?_)))) (fun z => absurd rfl z)))⟩
        · rw [iZ_add]
          exact hsc
        · rw [ew_or hv]
          exact b135_233
  · -- how they stand
    have e : macV 10 v w = lZ (reV v w) := rfl
    rw [e]
    unfold reV
    have dp : tsw 1 233 6 9 #[31, 57, 116, 153] (nI 10).toInt = 234 := by decide
    refine ⟨rv, f, hB, rfl, b135_0 ?_⟩
    rw [dp]
    by_cases c1 : infN < fsz 46 v
    · rw [if_pos c1] at n1
      rw [if_pos (Or.inl c1)]
      exact b135_234 n1 (b135_238 (fun _ => b135_249) (fun z => absurd z (by decide)))
    rw [if_neg c1] at n1
    by_cases c2 : infN < fsz 46 w
    · rw [if_pos c2] at n2
      rw [if_pos (Or.inr c2)]
      exact b135_234 n1 (b135_238 (fun z => absurd rfl z) (fun _ => b135_241 n2 (b135_246 (fun z => absurd z (by decide)) (fun _ => b135_249))))
    rw [if_neg c2] at n2
    rw [if_neg (fun z => z.elim c1 c2)]
    refine b135_234 n1 (b135_238 (fun z => absurd rfl z) (fun _ => b135_241 n2 (b135_246 (fun _ => ?_) (fun z => absurd rfl z))))
    have eq : lN v = lN w ↔ v = w := lN_inj hv hw
    have r1 := rankZ_rng v
    have r2 := rankZ_rng w
    have rest : ¬ (fsz 46 v = 0 ∧ fsz 46 w = 0) → Er (d + 5) 135 (275, [some (.ref 1), some (.int (nI 10)), some (.long (lN v)), none, some (.long (lN w)), none, none, none], [.int 0], ZS σ rv f) (.inl (some (.long (lZ (if fsz 46 v = 0 ∧ fsz 46 w = 0 then 2 else 2 + cz (rankZ v) (rankZ w))))), ZS σ rv f, 0) := by
      intro hn
      rw [if_neg hn]
      unfold cz
      refine b135_275 (fun z => absurd rfl z) (fun _ => b135_282 (fun y => ?_) (fun y => ?_))
      · rw [eq] at y
        have hne : rankZ v ≠ rankZ w := fun z => y ((rank_inj hv hw).mp z)
        rw [if_neg hne]
        refine b135_295 (z_rank hv) (b135_299 (z_rank hw) (b135_304 (fun u => ?_) (fun u => ?_)))
        · rw [lZ_lt r1.1 r1.2 r2.1 r2.2] at u
          rw [if_neg u]
          exact b135_312 b135_315
        · rw [lZ_lt r1.1 r1.2 r2.1 r2.2] at u
          rw [if_pos u]
          exact b135_308 b135_315
      · rw [eq] at y
        rw [if_pos (by rw [y])]
        exact b135_289 b135_315
    refine b135_253 (fun z => b135_274 (rest ?_)) (fun z => b135_261 (fun y => b135_274 (rest ?_)) (fun y => b135_270 (b135_275 (fun _ => b135_289 ?_) (fun u => absurd u (by decide)))))
    · rw [shl1_0] at z
      exact fun u => z u.1
    · rw [shl1_0] at y
      exact fun u => y u.2
    · rw [shl1_0] at z y
      rw [if_pos ⟨z, y⟩]
      exact b135_315
theorem z_machinex {x1 : Int32} {a b : Int64} (h : ¬ ∃ k, k ≤ 10 ∧ x1 = nI k) : Ml (d + 2) 129 [.ref 1, .int x1, .long a, .long b] σ (.long 0) σ 1 := by
  intro rv f hB
  have t := b129_15 (d := d + 1) (x0 := 1) (x1 := x1) (x2 := a) (x4 := b) (s0 := 0) (σ := ZS σ rv (upi f 0 1))
  rw [i0l] at t
  refine ⟨rv, upi f 0 1, hB, upi_s _ _ _, b129_0 (fun _ => b129_10 k1 z_fails t) (fun z => b129_4 (fun y => ?_) (fun _ => b129_10 k1 z_fails t))⟩
  obtain ⟨j, hj, rfl⟩ := nI_of z
  have y2 := (nI_leI (b := 10) hj (by decide)).mp y
  exact absurd ⟨j, y2, rfl⟩ h
theorem z_machine {k : Nat} (hk : k ≤ 10) (hv : v < 2 ^ 64) (hw : w < 2 ^ 64) : Ml (d + 6) 129 [.ref 1, .int (nI k), .long (lN v), .long (lN w)] σ (.long (macV k v w)) σ 0 := by
  intro rv f hB
  have es : sfi (ZS σ rv f) 1 0 0 = ZS σ rv (upi f 0 0) := ZS_set (by decide)
  have kl : ∀ j, j < 2 ^ 31 → (nI j ≤ nI k ↔ j ≤ k) := fun j hj => nI_leI hj (by omega)
  have start : ∀ {q : Rs}, k ≠ 0 → Er (d + 6) 129 (34, [some (.ref 1), some (.int (nI k)), some (.long (lN v)), none, some (.long (lN w)), none], [], ZS σ rv (upi f 0 0)) q → Er (d + 6) 129 (0, ent 129 [.ref 1, .int (nI k), .long (lN v), .long (lN w)], [], ZS σ rv f) q := by
    intro q h0 hq
    refine b129_0 (fun z => absurd z (nI_pos (by omega))) (fun _ => b129_4 (fun _ => b129_17 ⟨by decide, rfl, rfl⟩ (fun _ => ?_) (fun z => absurd ((nI_eq (b := 0) (by omega) (by decide)).mp z) h0)) (fun z => absurd (nI_le (b := 10) hk (by decide)) z))
    rw [es]
    exact hq
  by_cases k0 : k = 0
  · subst k0
    obtain ⟨rv2, f2, B2, e0, hr⟩ := z_rem (d := d) hv hw σ rv (upi f 0 0) hB
    refine ⟨rv2, f2, B2, by rw [e0, upi_s], b129_0 (fun z => absurd z (by decide)) (fun _ => b129_4 (fun _ => b129_17 ⟨by decide, rfl, rfl⟩ (fun z => absurd rfl z) (fun _ => ?_)) (fun z => absurd (by decide) z))⟩
    rw [es]
    exact b129_26 k1 hr b129_33
  by_cases k4 : k < 4
  · obtain ⟨dir, hdir, em⟩ : ∃ dir, ((k = 1 ∧ dir = 2) ∨ (k = 2 ∧ dir = 1) ∨ (k = 3 ∧ dir = 0)) ∧ macV k v w = lN (twhV v dir) := by
      rcases (show k = 1 ∨ k = 2 ∨ k = 3 by omega) with rfl | rfl | rfl
      · exact ⟨2, Or.inl ⟨rfl, rfl⟩, rfl⟩
      · exact ⟨1, Or.inr (Or.inl ⟨rfl, rfl⟩), rfl⟩
      · exact ⟨0, Or.inr (Or.inr ⟨rfl, rfl⟩), rfl⟩
    rw [em]
    obtain ⟨rv2, f2, B2, e0, hr⟩ := z_rounded (d := d) hdir hv σ rv (upi f 0 0) hB
    exact ⟨rv2, f2, B2, by rw [e0, upi_s], start k0 (b129_34 (fun z => absurd ((kl 4 (by decide)).mp z) (by omega)) (fun _ => b129_39 k1 hr b129_45))⟩
  by_cases k6 : k < 6
  · have n1 := z_isNo (d := d + 3) (v := v) (S := ZS σ rv (upi f 0 0)) hv
    have n2 := z_isNo (d := d + 3) (v := w) (S := ZS σ rv (upi f 0 0)) hw
    have r1 := rankZ_rng v
    have r2 := rankZ_rng w
    have go : ∀ {q : Rs}, Er (d + 6) 129 (52, [some (.ref 1), some (.int (nI k)), some (.long (lN v)), none, some (.long (lN w)), none], [], ZS σ rv (upi f 0 0)) q → Er (d + 6) 129 (0, ent 129 [.ref 1, .int (nI k), .long (lN v), .long (lN w)], [], ZS σ rv f) q := fun hq =>
      start k0 (b129_34 (fun _ => b129_46 (fun z => absurd ((kl 6 (by decide)).mp z) (by omega)) (fun _ => hq)) (fun z => absurd ((kl 4 (by decide)).mpr (by omega)) z))
    refine ⟨rv, upi f 0 0, hB, upi_s _ _ _, go ?_⟩
    have rk : lZ (rankZ w) < lZ (rankZ v) ↔ rankZ w < rankZ v := lZ_lt r2.1 r2.2 r1.1 r1.2
    have eG : k = 4 → macV k v w = lN (grV v w) := fun e => by rw [e]; rfl
    have eL : k = 5 → macV k v w = lN (leV v w) := fun e => by rw [e]; rfl
    by_cases c : infN < fsz 46 v ∨ infN < fsz 46 w
    · have em : macV k v w = lN 9221120237041090560 := by
        rcases (show k = 4 ∨ k = 5 by omega) with e | e
        · rw [eG e]
          unfold grV
          rw [if_pos c]
        · rw [eL e]
          unfold leV
          rw [if_pos c]
      rw [em]
      by_cases c1 : infN < fsz 46 v
      · rw [if_pos c1] at n1
        exact b129_52 n1 (b129_56 (fun _ => b129_67) (fun z => absurd z (by decide)))
      · rw [if_neg c1] at n1
        rw [if_pos (c.resolve_left c1)] at n2
        exact b129_52 n1 (b129_56 (fun z => absurd rfl z) (fun _ => b129_59 n2 (b129_64 (fun z => absurd z (by decide)) (fun _ => b129_67))))
    · rw [if_neg (fun z => c (Or.inl z))] at n1
      rw [if_neg (fun z => c (Or.inr z))] at n2
      refine b129_52 n1 (b129_56 (fun z => absurd rfl z) (fun _ => b129_59 n2 (b129_64 (fun _ => b129_71 (z_rank hv) (b129_75 (z_rank hw) ?_)) (fun z => absurd rfl z))))
      rcases (show k = 4 ∨ k = 5 by omega) with e | e
      · have em : macV k v w = if rankZ w < rankZ v then lN v else lN w := by
          rw [eG e]
          unfold grV
          rw [if_neg c]
          by_cases g : rankZ w < rankZ v
          · rw [if_pos g, if_neg (by omega)]
          · rw [if_neg g]
            by_cases g2 : rankZ v < rankZ w
            · rw [if_pos g2]
            · rw [if_neg g2]
              have : v = w := (rank_inj hv hw).mp (by omega)
              rw [this]
        rw [em]
        subst e
        by_cases g : rankZ w < rankZ v
        · rw [if_pos g]
          exact b129_80 (fun z => absurd (rk.mpr g) z) (fun _ => b129_84 (b129_89 (fun z => absurd rfl z) (fun _ => b129_94 (b129_99 (fun z => absurd rfl z) (fun _ => b129_102 b129_108)))))
        · rw [if_neg g]
          exact b129_80 (fun _ => b129_88 (b129_89 (fun z => absurd rfl z) (fun _ => b129_94 (b129_99 (fun _ => b129_106 b129_108) (fun z => absurd z (by decide)))))) (fun z => absurd (rk.mp z) g)
      · have em : macV k v w = if rankZ w < rankZ v then lN w else lN v := by
          rw [eL e]
          unfold leV
          rw [if_neg c]
          split <;> rfl
        rw [em]
        subst e
        by_cases g : rankZ w < rankZ v
        · rw [if_pos g]
          exact b129_80 (fun z => absurd (rk.mpr g) z) (fun _ => b129_84 (b129_89 (fun _ => b129_98 (b129_99 (fun _ => b129_106 b129_108) (fun z => absurd z (by decide)))) (fun z => absurd z (by decide))))
        · rw [if_neg g]
          exact b129_80 (fun _ => b129_88 (b129_89 (fun _ => b129_98 (b129_99 (fun z => absurd rfl z) (fun _ => b129_102 b129_108))) (fun z => absurd z (by decide)))) (fun z => absurd (rk.mp z) g)
  · obtain ⟨rv2, f2, B2, e0, hr⟩ := z_mm (d := d) (k := k) (by omega) hk hv hw σ rv (upi f 0 0) hB
    exact ⟨rv2, f2, B2, by rw [e0, upi_s], start k0 (b129_34 (fun _ => b129_46 (fun _ => b129_109 k1 hr b129_117) (fun z => absurd ((kl 6 (by decide)).mpr (by omega)) z)) (fun z => absurd ((kl 4 (by decide)).mpr (by omega)) z))⟩
end
