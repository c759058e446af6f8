/-! the reference: round, nearest, single, scaled -/
section
variable {d n a : Nat} {σ : St} {rv : Nat → Nat} {f : Nat → Int32} {sg : Nat → Int} {P Q : Nat → Nat} {S : St}
theorem z_r205 {dir : Nat} {b : Bool} {x3 x6 s0 : Int32} {x4 : Int64} {q : Rs} (hd : dir < 4) (hq : Er (d + 1) 126 (230, [some (.ref 1), some (.int (iZ (if b then -1 else 1))), some (.int (nI dir)), some (.int x3), some (.long x4), none, some (.int x6), some (.int s0), none, none], [.int (if (dir = 1 ∧ b = false) ∨ (dir = 2 ∧ b = true) then 1 else 0)], S) q) : Er (d + 1) 126 (205, [some (.ref 1), some (.int (iZ (if b then -1 else 1))), some (.int (nI dir)), some (.int x3), some (.long x4), none, some (.int x6), none, none, none], [.int s0], S) q := by
  rcases (show dir = 0 ∨ dir = 1 ∨ dir = 2 ∨ dir = 3 by omega) with rfl | rfl | rfl | rfl <;> cases b
  · exact b126_205 (fun _ => b126_216 (fun _ => b126_229 hq) (fun z => absurd z (by decide))) (fun z => absurd z (by decide))
  · exact b126_205 (fun _ => b126_216 (fun _ => b126_229 hq) (fun z => absurd z (by decide))) (fun z => absurd z (by decide))
  · exact b126_205 (fun z => absurd rfl z) (fun _ => b126_212 (fun _ => b126_225 hq) (fun z => absurd (by decide) z))
  · exact b126_205 (fun z => absurd rfl z) (fun _ => b126_212 (fun z => absurd z (by decide)) (fun _ => b126_216 (fun _ => b126_229 hq) (fun z => absurd z (by decide))))
  · exact b126_205 (fun _ => b126_216 (fun z => absurd rfl z) (fun _ => b126_221 (fun _ => b126_229 hq) (fun z => absurd (by decide) z))) (fun z => absurd z (by decide))
  · exact b126_205 (fun _ => b126_216 (fun z => absurd rfl z) (fun _ => b126_221 (fun z => absurd z (by decide)) (fun _ => b126_225 hq))) (fun z => absurd z (by decide))
  · exact b126_205 (fun _ => b126_216 (fun _ => b126_229 hq) (fun z => absurd z (by decide))) (fun z => absurd z (by decide))
  · exact b126_205 (fun _ => b126_216 (fun _ => b126_229 hq) (fun z => absurd z (by decide))) (fun z => absurd z (by decide))
theorem z_r296 {dir : Nat} {b : Bool} {x3 x6 x7 x8 : Int32} {x4 s0 s1 : Int64} {o9 : Option Value} {q : Rs} (hd : dir < 4) (hq : Er (d + 1) 126 (326, [some (.ref 1), some (.int (iZ (if b then -1 else 1))), some (.int (nI dir)), some (.int x3), some (.long (s0 + s1)), none, some (.int x6), some (.int x7), some (.int x8), o9], [.int (if toInf dir b then 1 else 0)], S) q) : Er (d + 1) 126 (296, [some (.ref 1), some (.int (iZ (if b then -1 else 1))), some (.int (nI dir)), some (.int x3), some (.long x4), none, some (.int x6), some (.int x7), some (.int x8), o9], [.long s1, .long s0], S) q := by
  rcases (show dir = 0 ∨ dir = 1 ∨ dir = 2 ∨ dir = 3 by omega) with rfl | rfl | rfl | rfl <;> cases b
  · exact b126_296 (fun _ => b126_321 hq) (fun z => absurd rfl z)
  · exact b126_296 (fun _ => b126_321 hq) (fun z => absurd rfl z)
  · exact b126_296 (fun z => absurd z (by decide)) (fun _ => b126_303 (fun z => absurd rfl z) (fun _ => b126_308 (fun _ => b126_321 hq) (fun z => absurd (by decide) z)))
  · exact b126_296 (fun z => absurd z (by decide)) (fun _ => b126_303 (fun z => absurd rfl z) (fun _ => b126_308 (fun z => absurd z (by decide)) (fun _ => b126_312 (fun _ => b126_325 hq) (fun z => absurd z (by decide)))))
  · exact b126_296 (fun z => absurd z (by decide)) (fun _ => b126_303 (fun _ => b126_312 (fun z => absurd rfl z) (fun _ => b126_317 (fun _ => b126_325 hq) (fun z => absurd (by decide) z))) (fun z => absurd z (by decide)))
  · exact b126_296 (fun z => absurd z (by decide)) (fun _ => b126_303 (fun _ => b126_312 (fun z => absurd rfl z) (fun _ => b126_317 (fun z => absurd z (by decide)) (fun _ => b126_321 hq))) (fun z => absurd z (by decide)))
  · exact b126_296 (fun z => absurd z (by decide)) (fun _ => b126_303 (fun _ => b126_312 (fun _ => b126_325 hq) (fun z => absurd z (by decide))) (fun z => absurd z (by decide)))
  · exact b126_296 (fun z => absurd z (by decide)) (fun _ => b126_303 (fun _ => b126_312 (fun _ => b126_325 hq) (fun z => absurd z (by decide))) (fun z => absurd z (by decide)))
theorem z_rend {x K A1 D1 dir : Nat} {b : Bool} (h : FO x) (hf : FM f x) (hK : K < 5000) (hB : BM rv) (e6 : rv 6 = D1) (e8 : rv 8 = A1 % D1) (p1 : 0 < D1) (l1 : D1 < Bp 63) (hq : A1 / D1 < 2 ^ (fb x + 1)) (hq0 : K = 0 ∨ 2 ^ fb x ≤ A1 / D1) (hd : dir < 4) : ∃ rv2, BM rv2 ∧ Er (d + 3) 126 (191, [some (.ref 1), some (.int (iZ (if b then -1 else 1))), some (.int (nI dir)), some (.int (iZ ((K : Int) - fz x))), some (.long (lN (A1 / D1))), none, some (.int 0), none, none, none], [], ZS σ rv f) (.inl (some (.long (lN (encR x K (rndQ dir b A1 D1) (toInf dir b))))), ZS σ rv2 f, 0) := by
  obtain ⟨_, _, _, _, _, _, x7, _, _, _⟩ := h.s
  have hr := rndQ_le (dir := dir) (neg := b) (N := A1) (D := D1)
  obtain ⟨M, hM⟩ : ∃ M, M = A1 / D1 := ⟨_, rfl⟩
  obtain ⟨r, hrr⟩ : ∃ r, r = A1 % D1 := ⟨_, rfl⟩
  obtain ⟨R, hR⟩ : ∃ R, R = rndQ dir b A1 D1 := ⟨_, rfl⟩
  rw [← hR, ← hM] at hr
  have rD : r < D1 := by rw [hrr]; exact Nat.mod_lt _ p1
  rw [← hM] at hq hq0
  rw [← hrr] at e8
  have M63 : M < 2 ^ 63 := Nat.lt_of_lt_of_le hq (Nat.pow_le_pow_right (by decide) (by omega))
  have hup := @rndQ_up dir b A1 D1
  have hno := @rndQ_no dir b A1 D1
  unfold upQ at hup hno
  rw [← hR, ← hM, ← hrr] at hup hno
  rw [← hR, ← hM]
  have en := fun (r2 : Nat → Nat) => z_encode (d := d + 1) (σ := σ) (rv := r2) (f := f) (x := x) (K := K) (R := R) (t := toInf dir b) h hf (by omega) hK (by omega)
  have fin : ∀ (r2 : Nat → Nat) (g : Int32) (o9 : Option Value), (g = 1 ∧ r ≠ 0 ∧ R = M + 1) ∨ (g = 0 ∧ R = M) ∨ (r = 0 ∧ R = M) → Er (d + 3) 126 (279, [some (.ref 1), some (.int (iZ (if b then -1 else 1))), some (.int (nI dir)), some (.int (iZ ((K : Int) - fz x))), some (.long (lN M)), none, some (.int 0), some (.int (if r = 0 then 0 else 1)), some (.int g), o9], [], ZS σ r2 f) (.inl (some (.long (lN (encR x K R (toInf dir b))))), ZS σ r2 f, 0) := by
    intro r2 g o9 hg
    have z1 : lN M + 1 = lN (M + 1) := lN_add M 1
    have z0 : lN M + 0 = lN M := lN_add M 0
    have go1 : R = M + 1 → Er (d + 3) 126 (296, [some (.ref 1), some (.int (iZ (if b then -1 else 1))), some (.int (nI dir)), some (.int (iZ ((K : Int) - fz x))), some (.long (lN M)), none, some (.int 0), some (.int (if r = 0 then 0 else 1)), some (.int g), o9], [.long 1, .long (lN M)], ZS σ r2 f) (.inl (some (.long (lN (encR x K R (toInf dir b))))), ZS σ r2 f, 0) := by
      intro e
      refine z_r296 hd ?_
      rw [z1, ← e]
      exact b126_326 k1 (en r2) b126_337
    have go0 : R = M → Er (d + 3) 126 (296, [some (.ref 1), some (.int (iZ (if b then -1 else 1))), some (.int (nI dir)), some (.int (iZ ((K : Int) - fz x))), some (.long (lN M)), none, some (.int 0), some (.int (if r = 0 then 0 else 1)), some (.int g), o9], [.long 0, .long (lN M)], ZS σ r2 f) (.inl (some (.long (lN (encR x K R (toInf dir b))))), ZS σ r2 f, 0) := by
      intro e
      refine z_r296 hd ?_
      rw [z0, ← e]
      exact b126_326 k1 (en r2) b126_337
    refine b126_279 (fun z => b126_295 (go0 ?_)) (fun z => b126_286 (fun w => b126_295 (go0 ?_)) (fun w => b126_291 (go1 ?_)))
    · rcases hg with ⟨g1, _, _⟩ | ⟨_, g2⟩ | ⟨_, g2⟩
      · rw [g1] at z
        exact absurd z (by decide)
      · exact g2
      · exact g2
    · by_cases c : r = 0
      · rcases hg with ⟨_, g1, _⟩ | ⟨_, g2⟩ | ⟨_, g2⟩
        · exact absurd c g1
        · exact g2
        · exact g2
      · rw [if_neg c] at w
        exact absurd w (by decide)
    · by_cases c : r = 0
      · rw [if_pos c] at w
        exact absurd rfl w
      · rcases hg with ⟨_, _, g1⟩ | ⟨g1, _⟩ | ⟨g1, _⟩
        · exact g1
        · exact absurd g1 z
        · exact absurd g1 c
  have tz := z_isZ (d := d + 1) (σ := σ) (rv := rv) (f := f) (r := 8) (by decide) hB
  rw [e8] at tz
  have to230 : ∀ {q : Rs}, Er (d + 3) 126 (230, [some (.ref 1), some (.int (iZ (if b then -1 else 1))), some (.int (nI dir)), some (.int (iZ ((K : Int) - fz x))), some (.long (lN M)), none, some (.int 0), some (.int (if r = 0 then 0 else 1)), none, none], [.int (if (dir = 1 ∧ b = false) ∨ (dir = 2 ∧ b = true) then 1 else 0)], ZS σ rv f) q → Er (d + 3) 126 (191, [some (.ref 1), some (.int (iZ (if b then -1 else 1))), some (.int (nI dir)), some (.int (iZ ((K : Int) - fz x))), some (.long (lN M)), none, some (.int 0), none, none, none], [], ZS σ rv f) q := by
    intro q hq
    refine b126_191 k1 tz ?_
    by_cases c : r = 0
    · rw [if_pos c] at hq ⊢
      exact b126_197 (fun _ => b126_204 (z_r205 hd hq)) (fun z => absurd z (by decide))
    · rw [if_neg c] at hq ⊢
      exact b126_197 (fun z => absurd rfl z) (fun _ => b126_200 (z_r205 hd hq))
  by_cases d0 : dir = 0
  · have rb : r * 2 ^ 1 < Bp 64 := by
      have h1 : Bp 64 = Bp 63 * 4294967296 := Bp_succ 63
      omega
    have tu := z_up (d := d + 1) (σ := σ) (rv := rv) (f := f) (r := 8) (n := 1) (by decide) hB (by decide) (by rw [e8]; exact rb)
    rw [e8] at tu
    have C1 := BM_up (i := 8) hB rb
    have tc := z_cmpM (d := d + 1) (σ := σ) (rv := up rv 8 (r * 2 ^ 1)) (f := f) (a := 8) (b := 6) (by decide) (by decide) C1
    rw [up_s, up_n (i := 8) (j := 6) (by decide), e6] at tc
    obtain ⟨hz, ehz⟩ : ∃ hz, hz = cz ((r * 2 ^ 1 : Nat) : Int) (D1 : Int) := ⟨_, rfl⟩
    rw [← ehz] at tc
    have hz1 : (0 < iZ hz ↔ D1 < 2 * r) ∧ (iZ hz = 0 ↔ 2 * r = D1) := by
      rw [ehz]
      unfold cz
      by_cases c1 : ((r * 2 ^ 1 : Nat) : Int) = D1
      · rw [if_pos c1]
        exact ⟨⟨fun z => absurd z (by decide), fun z => by omega⟩, ⟨fun _ => by omega, fun _ => rfl⟩⟩
      · rw [if_neg c1]
        by_cases c2 : ((r * 2 ^ 1 : Nat) : Int) < D1
        · rw [if_pos c2]
          exact ⟨⟨fun z => absurd z (by decide), fun z => by omega⟩, ⟨fun z => absurd z (by decide), fun z => by omega⟩⟩
        · rw [if_neg c2]
          exact ⟨⟨fun _ => by omega, fun _ => by decide⟩, ⟨fun z => absurd z (by decide), fun z => by omega⟩⟩
    have hm1 : (lN M &&& 1 = (1 : Int64)) ↔ M % 2 = 1 := by
      have h1 : lN M &&& (1 : Int64) = lN (M % 2 ^ 1) := and_N (n := M) (m := 1) 1 rfl (by decide)
      rw [h1]
      exact lN_inj (b := 1) (Nat.lt_of_lt_of_le (Nat.mod_lt _ (by decide)) (by decide)) (by decide)
    refine ⟨up rv 8 (r * 2 ^ 1), C1, to230 (b126_230 (fun z => absurd (by rw [d0]; rfl) z) (fun _ => b126_236 k1 tu (b126_243 k1 tc ?_)))⟩
    have up1 : D1 < 2 * r ∨ (2 * r = D1 ∧ M % 2 = 1) → (r ≠ 0 ∧ R = M + 1) := fun z => ⟨by omega, hup (Or.inl ⟨d0, z⟩)⟩
    have no1 : ¬ (D1 < 2 * r ∨ (2 * r = D1 ∧ M % 2 = 1)) → R = M := fun z => hno (fun y => y.elim (fun w => z w.2) (fun w => by omega))
    refine b126_251 (fun z => b126_272 (b126_277 (fin _ _ _ ?_))) (fun z => b126_258 (fun w => b126_276 (b126_277 (fin _ _ _ ?_))) (fun w => b126_263 (fun y => b126_276 (b126_277 (fin _ _ _ ?_))) (fun y => b126_272 (b126_277 (fin _ _ _ ?_)))))
    · exact Or.inl ⟨rfl, up1 (Or.inl (hz1.1.mp z))⟩
    · rw [hz1.1] at z
      rw [hz1.2] at w
      exact Or.inr (Or.inl ⟨rfl, no1 (fun e => e.elim z (fun v => w v.1))⟩)
    · rw [hz1.1] at z
      rw [hm1] at y
      exact Or.inr (Or.inl ⟨rfl, no1 (fun e => e.elim z (fun v => y v.2))⟩)
    · rw [hz1.2] at w
      rw [hm1] at y
      exact Or.inl ⟨rfl, up1 (Or.inr ⟨w, y⟩)⟩
  · refine ⟨rv, hB, to230 (b126_230 (fun _ => fin _ _ _ ?_) (fun z => absurd ((nI_eq (b := 0) (by omega) (by decide)).mp z) d0))⟩
    by_cases c : (dir = 1 ∧ b = false) ∨ (dir = 2 ∧ b = true)
    · rw [if_pos c]
      by_cases r0 : r = 0
      · exact Or.inr (Or.inr ⟨r0, hno (fun y => y.elim (fun w => d0 w.1) (fun w => w.1 r0))⟩)
      · exact Or.inl ⟨rfl, r0, hup (Or.inr ⟨r0, c⟩)⟩
    · rw [if_neg c]
      exact Or.inr (Or.inl ⟨rfl, hno (fun y => y.elim (fun w => d0 w.1) (fun w => c w.2))⟩)
theorem z_rK {x K A0 D0 dir : Nat} {b : Bool} {x4 : Int64} (h : FO x) (hf : FM f x) (hK : K < 5000) (hB : BM rv) (e2 : rv 2 = A0) (e3 : rv 3 = D0) (hD0 : 0 < D0) (s1 : fz x < K → K - fz x < 2000 ∧ D0 * 2 ^ (K - fz x) < Bp 63) (s2 : K ≤ fz x → A0 * 2 ^ (fz x - K) < Bp 63) (hA : A0 < Bp 63) (hDD : D0 < Bp 63) (hd : dir < 4) (hk : isK x (A0 * 2 ^ fz x) D0 K) :
    ∃ rv2, BM rv2 ∧ Er (d + 3) 126 (40, [some (.ref 1), some (.int (iZ (if b then -1 else 1))), some (.int (nI dir)), some (.int (iZ ((K : Int) - fz x))), some (.long x4), none, some (.int 1), none, none, none], [], ZS σ rv f) (.inl (some (.long (lN (encV x b dir (A0 * 2 ^ fz x) D0)))), ZS σ rv2 f, 0) := by
  obtain ⟨_, _, _, _, x5, _, x7, _, _, x10⟩ := h.s
  obtain ⟨r1, A1, D1, c, B1, _, _, v6, v7, v8, p1, l1, hc, eA, eD, go⟩ := z_it (d := d) (σ := σ) (rv := rv) (f := f) (x1 := iZ (if b then -1 else 1)) (x2 := nI dir) (x4 := x4) h hK hB e2 e3 hD0 s1 s2 hA hDD
  have eq : A0 * 2 ^ fz x / (D0 * 2 ^ K) = A1 / D1 := by rw [eA, eD, Nat.mul_div_mul_right _ _ hc]
  have er : encV x b dir (A0 * 2 ^ fz x) D0 = encR x K (rndQ dir b A1 D1) (toInf dir b) := by
    rw [← encV_eq hD0 hk, enc_R hd, eA, eD, rndQ_scale hc]
  obtain ⟨k1', k2'⟩ := hk
  rw [eq] at k1' k2'
  rw [er]
  obtain ⟨M, hM⟩ : ∃ M, M = A1 / D1 := ⟨_, rfl⟩
  have M64 : A1 / D1 % 2 ^ 64 = A1 / D1 := Nat.mod_eq_of_lt (Nat.lt_of_lt_of_le k1' (Nat.pow_le_pow_right (by decide) (by omega)))
  rw [M64] at go
  obtain ⟨rv2, B2, hr⟩ := z_rend (d := d) (σ := σ) (rv := r1) (f := f) (x := x) (K := K) (A1 := A1) (D1 := D1) (dir := dir) (b := b) h hf hK B1 v6 v8 p1 l1 k1' k2' hd
  refine ⟨rv2, B2, go ?_⟩
  have L1 : bln (A1 / D1) ≤ fb x + 1 := bln_le.mpr k1'
  have g6 : gfi (ZS σ r1 f) 1 6 = nI (fb x + 1) := by rw [ZS_get (by decide)]; exact hf.1
  have g7 : gfi (ZS σ r1 f) 1 7 = iZ (-(fz x : Int)) := by rw [ZS_get (by decide)]; exact hf.2.1
  have tl := z_lenM (d := d + 1) (σ := σ) (rv := r1) (f := f) (r := 7) (by decide) B1
  rw [v7] at tl
  have done : Er (d + 3) 126 (153, [some (.ref 1), some (.int (iZ (if b then -1 else 1))), some (.int (nI dir)), some (.int (iZ ((K : Int) - fz x))), some (.long (lN (A1 / D1))), none, some (.int 1), none, none, none], [], ZS σ r1 f) (.inl (some (.long (lN (encR x K (rndQ dir b A1 D1) (toInf dir b))))), ZS σ rv2 f, 0) := by
    refine b126_153 (b126_154 k1 tl (b126_162 k1 (fun _ => b126_175 (fun _ => b126_186 (b126_187 (b126_40 (fun _ => hr) (fun z => absurd rfl z)))) (fun z => absurd rfl z)) (fun z => ?_)))
    rw [g6] at z
    exact absurd (nI_le L1 (by omega)) z
  refine b126_121 k1 (fun z => ?_) (fun _ => b126_128 k1 tl (b126_134 k1 (fun _ => done) (fun z => b126_141 k1 (fun _ => done) (fun w => ?_))))
  · rw [g6, nI_ltI (by omega) (by omega)] at z
    omega
  · rw [g6, nI_leI (by omega) (by omega)] at z
    rw [g7, iZ_le (by omega) (by omega) (by omega) (by omega)] at w
    have hlt : A1 / D1 < 2 ^ fb x := bln_le.mp (by omega)
    omega
theorem z_round {x A0 D0 dir : Nat} {b : Bool} (h : FO x) (hf : FM f x) (hB : BM rv) (e2 : rv 2 = A0) (e3 : rv 3 = D0) (hA0 : 0 < A0) (hD0 : 0 < D0) (lA : bln A0 ≤ 1400) (lD : bln D0 ≤ 1400) (hd : dir < 4) : ∃ rv2, BM rv2 ∧ Er (d + 3) 126 (0, ent 126 [.ref 1, .int (iZ (if b then -1 else 1)), .int (nI dir)], [], ZS σ rv f) (.inl (some (.long (lN (encV x b dir (A0 * 2 ^ fz x) D0)))), ZS σ rv2 f, 0) := by
  obtain ⟨_, _, _, _, x5, _, x7, _, _, x10⟩ := h.s
  obtain ⟨la, ela⟩ : ∃ la, la = bln A0 := ⟨_, rfl⟩
  obtain ⟨ld, eld⟩ : ∃ ld, ld = bln D0 := ⟨_, rfl⟩
  have A1 : A0 < 2 ^ la := by rw [ela]; exact bln_lt
  have A2 : 2 ^ (la - 1) ≤ A0 := by rw [ela]; exact bln_ge hA0
  have D1 : D0 < 2 ^ ld := by rw [eld]; exact bln_lt
  have D2 : 2 ^ (ld - 1) ≤ D0 := by rw [eld]; exact bln_ge hD0
  have la0 : 0 < la := by rw [ela]; exact bln_pos.mpr hA0
  have ld0 : 0 < ld := by rw [eld]; exact bln_pos.mpr hD0
  have tl2 := z_lenM (d := d + 1) (σ := σ) (rv := rv) (f := f) (r := 2) (by decide) hB
  have tl3 := z_lenM (d := d + 1) (σ := σ) (rv := rv) (f := f) (r := 3) (by decide) hB
  rw [e2, ← ela] at tl2
  rw [e3, ← eld] at tl3
  rw [← ela] at lA
  rw [← eld] at lD
  obtain ⟨K, hK⟩ : ∃ K, K = la + fz x - (ld + (fb x + 1)) := ⟨_, rfl⟩
  have g6 : gfi (ZS σ rv f) 1 6 = nI (fb x + 1) := by rw [ZS_get (by decide)]; exact hf.1
  have g7 : gfi (ZS σ rv f) 1 7 = iZ (-(fz x : Int)) := by rw [ZS_get (by decide)]; exact hf.2.1
  have hA63 : A0 < Bp 63 := B63 A1 (by omega)
  have hD63 : D0 < Bp 63 := B63 D1 (by omega)
  -- the first place
  have start : ∀ {q : Rs}, Er (d + 3) 126 (40, [some (.ref 1), some (.int (iZ (if b then -1 else 1))), some (.int (nI dir)), some (.int (iZ ((K : Int) - fz x))), some (.long 0), none, some (.int 1), none, none, none], [], ZS σ rv f) q → Er (d + 3) 126 (0, ent 126 [.ref 1, .int (iZ (if b then -1 else 1)), .int (nI dir)], [], ZS σ rv f) q := by
    intro q hq
    have e0 : nI la - nI ld - nI (fb x + 1) = iZ ((la : Int) - ld - (fb x + 1 : Nat)) := by rw [← iZ_N, ← iZ_N, ← iZ_N, iZ_sub, iZ_sub]
    refine b126_0 k1 tl2 (b126_5 k1 tl3 (b126_10 k1 (fun z => ?_) (fun z => ?_)))
    · rw [g6, g7, e0, iZ_le (by omega) (by omega) (by omega) (by omega)] at z
      rw [g6, e0]
      have e : ((la : Int) - ld - (fb x + 1 : Nat)) = (K : Int) - fz x := by omega
      rw [e]
      exact b126_32 (b126_33 hq)
    · rw [g6, g7, e0, iZ_le (by omega) (by omega) (by omega) (by omega)] at z
      refine b126_25 k1 ?_
      rw [g7]
      have e : (-(fz x : Int)) = (K : Int) - fz x := by omega
      rw [e]
      exact b126_33 hq
  obtain ⟨q0, hq0⟩ : ∃ q0, q0 = A0 * 2 ^ fz x / (D0 * 2 ^ K) := ⟨_, rfl⟩
  have dp : 0 < D0 * 2 ^ K := Nat.mul_pos hD0 (Nat.two_pow_pos _)
  have up2 : q0 < 2 ^ (fb x + 2) := by
    rw [hq0, Nat.div_lt_iff_lt_mul dp]
    have h1 : A0 * 2 ^ fz x < 2 ^ la * 2 ^ fz x := Nat.mul_lt_mul_of_pos_right A1 (Nat.two_pow_pos _)
    have h2 : 2 ^ (ld - 1) * 2 ^ K ≤ D0 * 2 ^ K := Nat.mul_le_mul_right _ D2
    have h3 : 2 ^ (fb x + 2) * (2 ^ (ld - 1) * 2 ^ K) ≤ 2 ^ (fb x + 2) * (D0 * 2 ^ K) := Nat.mul_le_mul_left _ h2
    rw [← Nat.pow_add] at h1
    rw [← Nat.pow_add, ← Nat.pow_add] at h3
    have h4 : 2 ^ (la + fz x) ≤ 2 ^ (fb x + 2 + (ld - 1 + K)) := Nat.pow_le_pow_right (by decide) (by omega)
    exact Nat.lt_of_lt_of_le h1 (Nat.le_trans h4 h3)
  have lo : K = 0 ∨ 2 ^ fb x ≤ q0 := by
    rcases Nat.eq_zero_or_pos K with z | z
    · exact Or.inl z
    · right
      rw [hq0, Nat.le_div_iff_mul_le dp]
      have h1 : 2 ^ (la - 1) * 2 ^ fz x ≤ A0 * 2 ^ fz x := Nat.mul_le_mul_right _ A2
      have h2 : D0 * 2 ^ K ≤ 2 ^ ld * 2 ^ K := Nat.mul_le_mul_right _ (Nat.le_of_lt D1)
      have h3 : 2 ^ fb x * (D0 * 2 ^ K) ≤ 2 ^ fb x * (2 ^ ld * 2 ^ K) := Nat.mul_le_mul_left _ h2
      rw [← Nat.pow_add] at h1
      rw [← Nat.pow_add, ← Nat.pow_add] at h3
      have h4 : 2 ^ (fb x + (ld + K)) ≤ 2 ^ (la - 1 + fz x) := Nat.pow_le_pow_right (by decide) (by omega)
      exact Nat.le_trans h3 (Nat.le_trans h4 h1)
  have s1 : fz x < K → K - fz x < 2000 ∧ D0 * 2 ^ (K - fz x) < Bp 63 := fun z => ⟨by omega, mp_lt (k := ld) D1 (by omega)⟩
  have s2 : K ≤ fz x → A0 * 2 ^ (fz x - K) < Bp 63 := fun z => mp_lt (k := la) A1 (by omega)
  by_cases c : q0 < 2 ^ (fb x + 1)
  · obtain ⟨rv2, B2, hr⟩ := z_rK (d := d) (σ := σ) (rv := rv) (f := f) (x := x) (K := K) (A0 := A0) (D0 := D0) (dir := dir) (b := b) (x4 := 0) h hf (by omega) hB e2 e3 hD0 s1 s2 hA63 hD63 hd ⟨by rw [← hq0]; exact c, by rw [← hq0]; exact lo⟩
    exact ⟨rv2, B2, start hr⟩
  · -- one place more
    obtain ⟨r1, A3, D3, cc, B1, w2, w3, v6, v7, v8, p1, l1, hc, eA, eD, go⟩ := z_it (d := d) (σ := σ) (rv := rv) (f := f) (x1 := iZ (if b then -1 else 1)) (x2 := nI dir) (x4 := 0) h (show K < 5000 by omega) hB e2 e3 hD0 s1 s2 hA63 hD63
    have eq : q0 = A3 / D3 := by rw [hq0, eA, eD, Nat.mul_div_mul_right _ _ hc]
    have q1 : A0 * 2 ^ fz x / (D0 * 2 ^ (K + 1)) = q0 / 2 := by
      rw [hq0, Nat.div_div_eq_div_mul, Nat.mul_assoc, ← Nat.pow_succ]
    have X2 : 2 ^ (fb x + 2) = 2 * 2 ^ (fb x + 1) := Nat.pow_succ'
    have X1 : 2 ^ (fb x + 1) = 2 * 2 ^ fb x := Nat.pow_succ'
    have K0 : 0 < K ∨ K = 0 := by omega
    obtain ⟨rv2, B2, hr⟩ := z_rK (d := d) (σ := σ) (rv := r1) (f := f) (x := x) (K := K + 1) (A0 := A0) (D0 := D0) (dir := dir) (b := b) (x4 := lN (A3 / D3 % 2 ^ 64)) h hf (by omega) B1 w2 w3 hD0 (fun z => ⟨by omega, mp_lt (k := ld) D1 (by omega)⟩) (fun z => mp_lt (k := la) A1 (by omega)) hA63 hD63 hd ⟨by rw [q1]; omega, by rw [q1]; omega⟩
    refine ⟨rv2, B2, start (go ?_)⟩
    have L1 : fb x + 1 < bln (A3 / D3) := by
      rw [← eq]
      apply Nat.lt_of_not_le
      intro z
      exact c (bln_le.mp z)
    have L2 : bln (A3 / D3) ≤ fb x + 2 := by rw [← eq]; exact bln_le.mpr up2
    have g6' : gfi (ZS σ r1 f) 1 6 = nI (fb x + 1) := by rw [ZS_get (by decide)]; exact hf.1
    have tl := z_lenM (d := d + 1) (σ := σ) (rv := r1) (f := f) (r := 7) (by decide) B1
    rw [v7] at tl
    have e1 : iZ ((K : Int) - fz x) + 1 = iZ (((K + 1 : Nat) : Int) - fz x) := by
      rw [show (1 : Int32) = iZ 1 by decide, iZ_add]
      congr 1
      omega
    refine b126_121 k1 (fun _ => b126_149 (b126_154 k1 tl (b126_162 k1 (fun z => ?_) (fun _ => b126_169 (b126_187 ?_))))) (fun z => ?_)
    · rw [g6', nI_leI (by omega) (by omega)] at z
      omega
    · rw [e1]
      exact hr
    · rw [g6'] at z
      exact absurd (nI_lt L1 (by omega)) z
end
