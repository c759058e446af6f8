/-! the reference's calls that add a number, as the law meets them -/
def Ml (d m : Nat) (args : List Value) (σ : St) (res : Value) (σ2 : St) (t : Int32) : Prop := ∀ rv f, BM rv → ∃ rv2 f2, BM rv2 ∧ f2 0 = t ∧ Er d m (0, ent m args, [], ZS σ rv f) (.inl (some res), ZS σ2 rv2 f2, 0)
def maV (n : Nat) (T : Int × Nat × Nat) : Int32 := if n < 60 ∧ bln T.2.1 ≤ 256 ∧ bln T.2.2 ≤ 256 then nI n else 0
def maC (n : Nat) (T : Int × Nat × Nat) (c : Int32) : Int32 := if n < 60 ∧ bln T.2.1 ≤ 256 ∧ bln T.2.2 ≤ 256 then 0 else c
def maS (σ : St) (n : Nat) (T : Int × Nat × Nat) : St := if n < 60 ∧ bln T.2.1 ≤ 256 ∧ bln T.2.2 ≤ 256 then mkept σ n (iZ T.1) T.2.1 T.2.2 else σ
theorem im1 : (-1 : Int32) = iZ (-1) := by decide
theorem ip1 : (1 : Int32) = iZ 1 := by decide
theorem lt0 (v : Int64) : v < 0 ↔ v.toInt < 0 := by
  have := @l_lt v 0
  rwa [show (0 : Int64).toInt = 0 by decide] at this
theorem B63 {x k : Nat} (h : x < 2 ^ k) (hk : k ≤ 2016) : x < Bp 63 := Nat.lt_of_lt_of_le h (Nat.pow_le_pow_right (by decide) hk)
theorem B64 {x : Nat} (h : x < Bp 63) : x < Bp 64 := Nat.lt_of_lt_of_le h (Bp_le (by decide))
theorem mp_lt {a k e m : Nat} (h : a < 2 ^ k) (h2 : k + e ≤ m) : a * 2 ^ e < 2 ^ m := by
  have h3 : a * 2 ^ e < 2 ^ k * 2 ^ e := Nat.mul_lt_mul_of_pos_right h (Nat.two_pow_pos e)
  rw [← Nat.pow_add] at h3
  exact Nat.lt_of_lt_of_le h3 (Nat.pow_le_pow_right (by decide) h2)
theorem pw_lt {e m : Nat} (h2 : e < m) : 2 ^ e < 2 ^ m := Nat.pow_lt_pow_right (by decide) h2
theorem mk3_sg {s s2 : Int} {p q : Nat} (h : p ≠ 0 → s = s2) : mk3 (s, p, q) = mk3 (s2, p, q) := by
  unfold mk3
  simp only
  by_cases c : p = 0
  · rw [if_pos c, if_pos c]
  · rw [if_neg c, if_neg c, h c]
section
variable {d n : Nat} {σ : St} {rv : Nat → Nat} {f : Nat → Int32} {sg : Nat → Int} {P Q : Nat → Nat} {S : St}
theorem z_mk {s : Int} {c : Int32} {T : Int × Nat × Nat} (hn : gfi σ 1 1 = nI n) (h60 : n ≤ 60) (hB : BM rv) (hq0 : 0 < rv 1) (hp : rv 0 < Bp 63) (hq : rv 1 < Bp 63) (hT : mk3 (s, rv 0, rv 1) = T) :
    ∃ rv2 f2, BM rv2 ∧ f2 0 = maC n T c ∧ Er (d + 3) 80 (0, ent 80 [.ref 1, .int (iZ s), .int c], [], ZS σ rv f) (.inl (some (.int (maV n T))), ZS (maS σ n T) rv2 f2, 0) := by
  subst hT
  exact z_make hn h60 hB rfl rfl hq0 hp hq
theorem z_size {v : Int64} : Er (d + 1) 77 (0, ent 77 [.long v], [], S) (.inl (some (.long (lN v.toInt.natAbs))), S, 0) := by
  rw [← abs_lN]
  refine b77_0 (fun h => ?_) (fun h => ?_)
  · rw [if_neg h]; exact b77_11 b77_12
  · rw [if_pos h]; exact b77_6 b77_12
theorem z_whole {v : Int64} (hD : Db n sg P Q) (hM : MD σ n sg P Q) : Ml (d + 4) 76 [.ref 1, .long v] σ (.int (maV n (wholeT v))) (maS σ n (wholeT v)) (maC n (wholeT v) 1) := by
  intro rv f hB
  have hv := abs_64 v
  have hv3 := B63 hv (by decide)
  have h13 : (1 : Nat) < Bp 63 := B63 (k := 1) (by decide) (by decide)
  have B1 : BM (up rv 0 v.toInt.natAbs) := BM_up hB (B64 hv3)
  have B2 : BM (up (up rv 0 v.toInt.natAbs) 1 1) := BM_up B1 (B64 h13)
  have r0 : up (up rv 0 v.toInt.natAbs) 1 1 0 = v.toInt.natAbs := by rw [up_n (by decide), up_s]
  have r1 : up (up rv 0 v.toInt.natAbs) 1 1 1 = 1 := up_s _ _ _
  have hT : mk3 (if v < 0 then -1 else 1, v.toInt.natAbs, 1) = wholeT v := by
    unfold mk3 wholeT
    simp only
    rw [Nat.gcd_one_right, Nat.div_one, Nat.div_one]
    unfold cz
    by_cases c : v.toInt = 0
    · rw [if_pos (by omega), if_pos c]
    · rw [if_neg (by omega), if_neg c]
      by_cases c2 : v < 0
      · rw [if_pos c2, if_pos ((lt0 v).mp c2)]
      · rw [if_neg c2, if_neg (fun z => c2 ((lt0 v).mpr z))]
  obtain ⟨rv2, f2, b2, e2, hr⟩ := z_mk (d := d) (f := f) (σ := σ) (rv := up (up rv 0 v.toInt.natAbs) 1 1) (s := if v < 0 then -1 else 1) (c := 1) (T := wholeT v) hM.1 hD.1 B2 (by rw [r1]; decide) (by rw [r0]; exact hv3) (by rw [r1]; exact h13) (by rw [r0, r1]; exact hT)
  refine ⟨rv2, f2, b2, e2, b76_0 z_size (b76_6 k1 (z_set (r := 0) (by decide) hB hv) (b76_9 k1 (z_set (r := 1) (n := 1) (by decide) B1 (by decide)) ?_))⟩
  by_cases c : v < 0
  · rw [if_pos c] at hr
    exact b76_15 (fun z => absurd c z) (fun _ => b76_22 (b76_27 k1 hr b76_31))
  · rw [if_neg c] at hr
    exact b76_15 (fun _ => b76_26 (b76_27 k1 hr b76_31)) (fun z => absurd z c)
theorem z_fractionx {p : Int64} : Ml (d + 2) 94 [.ref 1, .long p, .long 0] σ (.int 0) σ 1 := by
  intro rv f hB
  exact ⟨rv, upi f 0 1, hB, upi_s _ _ _, b94_0 (fun z => absurd rfl z) (fun _ => b94_6 k1 z_fails b94_11)⟩
theorem z_fraction {p q : Int64} (hD : Db n sg P Q) (hM : MD σ n sg P Q) (hq : q ≠ 0) : Ml (d + 4) 94 [.ref 1, .long p, .long q] σ (.int (maV n (fracT p q))) (maS σ n (fracT p q)) (maC n (fracT p q) 2) := by
  intro rv f hB
  have hp := abs_64 p
  have hp3 := B63 hp (by decide)
  have hq6 := abs_64 q
  have hq3 := B63 hq6 (by decide)
  have hq0 : q.toInt ≠ 0 := fun z => hq (l_eq.mpr (by rw [z]; decide))
  obtain ⟨A, hA⟩ : ∃ A, A = p.toInt.natAbs := ⟨_, rfl⟩
  obtain ⟨B, hBq⟩ : ∃ B, B = q.toInt.natAbs := ⟨_, rfl⟩
  have B1 : BM (up rv 0 A) := BM_up hB (by rw [hA]; exact B64 hp3)
  have B2 : BM (up (up rv 0 A) 1 B) := BM_up B1 (by rw [hBq]; exact B64 hq3)
  have r0 : up (up rv 0 A) 1 B 0 = A := by rw [up_n (by decide), up_s]
  have r1 : up (up rv 0 A) 1 B 1 = B := up_s _ _ _
  have hT : mk3 (if (p < 0 ↔ q < 0) then 1 else -1, A, B) = fracT p q := by
    unfold fracT
    rw [hA, hBq]
    apply mk3_sg
    intro h0
    have hp0 : p.toInt ≠ 0 := by omega
    unfold cz
    rw [if_neg hp0, if_neg hq0]
    by_cases c1 : p < 0 <;> by_cases c2 : q < 0
    · rw [if_pos ⟨fun _ => c2, fun _ => c1⟩, if_pos ((lt0 p).mp c1), if_pos ((lt0 q).mp c2)]; rfl
    · rw [if_neg (fun z => c2 (z.mp c1)), if_pos ((lt0 p).mp c1), if_neg (fun z => c2 ((lt0 q).mpr z))]; rfl
    · rw [if_neg (fun z => c1 (z.mpr c2)), if_neg (fun z => c1 ((lt0 p).mpr z)), if_pos ((lt0 q).mp c2)]; rfl
    · rw [if_pos ⟨fun z => absurd z c1, fun z => absurd z c2⟩, if_neg (fun z => c1 ((lt0 p).mpr z)), if_neg (fun z => c2 ((lt0 q).mpr z))]; rfl
  obtain ⟨rv2, f2, b2, e2, hr⟩ := z_mk (d := d) (f := f) (σ := σ) (rv := up (up rv 0 A) 1 B) (s := if (p < 0 ↔ q < 0) then 1 else -1) (c := 2) (T := fracT p q) hM.1 hD.1 B2 (by rw [r1]; omega) (by rw [r0, hA]; exact hp3) (by rw [r1, hBq]; exact hq3) (by rw [r0, r1]; exact hT)
  have t0 := z_set (d := d + 1) (σ := σ) (rv := rv) (f := f) (r := 0) (n := A) (by decide) hB (by rw [hA]; exact hp)
  have t1 := z_set (d := d + 1) (σ := σ) (rv := up rv 0 A) (f := f) (r := 1) (n := B) (by decide) B1 (by rw [hBq]; exact hq6)
  have u0 := z_size (d := d + 2) (v := p) (S := ZS σ rv f)
  rw [← hA] at u0
  have u1 := z_size (d := d + 2) (v := q) (S := ZS σ (up rv 0 A) f)
  rw [← hBq] at u1
  refine ⟨rv2, f2, b2, e2, b94_0 (fun _ => b94_12 u0 (b94_18 k1 t0 (b94_21 u1 (b94_27 k1 t1 ?_)))) (fun z => absurd z hq)⟩
  by_cases c1 : p < 0 <;> by_cases c2 : q < 0
  · rw [if_pos ⟨fun _ => c2, fun _ => c1⟩] at hr
    exact b94_30 (fun z => absurd c1 z) (fun _ => b94_37 (b94_42 (fun z => absurd c2 z) (fun _ => b94_48 (b94_53 (fun _ => b94_60 (b94_61 k1 hr b94_65)) (fun z => absurd rfl z)))))
  · rw [if_neg (fun z => c2 (z.mp c1))] at hr
    exact b94_30 (fun z => absurd c1 z) (fun _ => b94_37 (b94_42 (fun _ => b94_52 (b94_53 (fun z => absurd z (by decide)) (fun _ => b94_56 (b94_61 k1 hr b94_65)))) (fun z => absurd z c2)))
  · rw [if_neg (fun z => c1 (z.mpr c2))] at hr
    exact b94_30 (fun _ => b94_41 (b94_42 (fun z => absurd c2 z) (fun _ => b94_48 (b94_53 (fun z => absurd z (by decide)) (fun _ => b94_56 (b94_61 k1 hr b94_65)))))) (fun z => absurd z c1)
  · rw [if_pos ⟨fun z => absurd z c1, fun z => absurd z c2⟩] at hr
    exact b94_30 (fun _ => b94_41 (b94_42 (fun _ => b94_52 (b94_53 (fun _ => b94_60 (b94_61 k1 hr b94_65)) (fun z => absurd rfl z))) (fun z => absurd z c2))) (fun z => absurd z c1)
/-! the parts of a double -/
theorem fex46 (v : Nat) : fex 46 v = v / 4503599627370496 % 2048 := by
  show v % 9223372036854775808 / 4503599627370496 = _
  omega
theorem exp_and {v : Nat} (hv : v < 2 ^ 64) : ((lN v >>> ((52 : Int32).toInt64 &&& 63)) &&& 2047).toInt32 = nI (fex 46 v) := by
  have h := shr_I (lN v) (s := 52) 52 rfl (by decide)
  obtain ⟨y, hy⟩ : ∃ y, y = lN v >>> ((52 : Int32).toInt64 &&& 63) := ⟨_, rfl⟩
  rw [← hy] at h ⊢
  have h2 := toInt_un (lN v)
  rw [un_lN' hv] at h2
  have h3 := un_lZ y.toInt
  rw [lZ_s, h, h2] at h3
  have h4 : un y % 2 ^ 11 = fex 46 v := by
    rw [fex46]
    simp only [Nat.reducePow] at hv ⊢
    by_cases c : v < 2 ^ 63
    · rw [if_pos c] at h3
      simp only [Nat.reducePow, Int.reducePow] at h3 c
      omega
    · rw [if_neg c] at h3
      simp only [Nat.reducePow, Int.reducePow] at h3 c
      omega
  have h5 := and_N (n := un y) (m := 2047) 11 rfl (by decide)
  rw [lN_un, h4] at h5
  show (y &&& lN 2047).toInt32 = _
  rw [h5, ← lZ_N, lZ_i, iZ_N]
theorem z_exp {v : Nat} (hv : v < 2 ^ 64) : Er (d + 1) 96 (0, ent 96 [.long (lN v)], [], S) (.inl (some (.int (nI (fex 46 v)))), S, 0) := by
  have t := b96_0 (d := d) (x0 := lN v) (σ := S)
  rw [exp_and hv] at t
  exact t
theorem part_and (v : Nat) : lN v &&& 4503599627370495 = lN (v % 2 ^ 52) := and_N (n := v) (m := 4503599627370495) 52 rfl (by decide)
theorem z_part {v : Nat} : Er (d + 1) 98 (0, ent 98 [.long (lN v)], [], S) (.inl (some (.long (lN (v % 2 ^ 52)))), S, 0) := by
  have t := b98_0 (d := d) (x0 := lN v) (σ := S)
  rw [part_and] at t
  exact t
theorem fexI (v : Nat) : nI (fex 46 v) = 0 ↔ fex 46 v = 0 := by
  have h := fex46 v
  exact nI_eq (b := 0) (by omega) (by decide)
theorem z_fac {v : Nat} (hv : v < 2 ^ 64) : Er (d + 2) 97 (0, ent 97 [.long (lN v)], [], S) (.inl (some (.long (lN (fsi 46 v)))), S, 0) := by
  refine b97_0 (z_exp hv) (b97_4 (fun z => ?_) (fun z => ?_))
  · rw [fexI] at z
    refine b97_14 z_part (b97_18 ?_)
    have e : lN (v % 2 ^ 52) ||| 4503599627370496 = lN (fsi 46 v) := by
      unfold fsi
      rw [if_neg z, Int64.or_comm]
      exact or_N (a := 1) (b := v % 2 ^ 52) (k := 52) (Nat.mod_lt _ (by decide)) (by decide)
    rw [e]
    exact b97_22
  · rw [fexI] at z
    have e : fsi 46 v = v % 2 ^ 52 := by
      unfold fsi
      rw [if_pos z]
      rfl
    rw [e]
    exact b97_7 z_part (b97_11 b97_22)
theorem fsc46 (v : Nat) : fsc 46 v = if fex 46 v = 0 then -1074 else (fex 46 v : Int) - 1075 := by
  unfold fsc
  rw [show ((fz 46 : Nat) : Int) = 1074 from rfl]
  by_cases c : fex 46 v = 0
  · rw [if_pos c, c]; rfl
  · rw [if_neg c]; omega
theorem z_place {v : Nat} (hv : v < 2 ^ 64) : Er (d + 2) 99 (0, ent 99 [.long (lN v)], [], S) (.inl (some (.int (iZ (fsc 46 v)))), S, 0) := by
  rw [fsc46]
  refine b99_0 (z_exp hv) (b99_4 (fun z => ?_) (fun z => ?_))
  · rw [fexI] at z
    rw [if_neg z]
    refine b99_13 (z_exp hv) (b99_17 ?_)
    rw [← iZ_N, show (1075 : Int32) = iZ 1075 by decide, iZ_sub]
    exact b99_21
  · rw [fexI] at z
    rw [if_pos z]
    exact b99_7 b99_21
theorem lt0_N {v : Nat} (hv : v < 2 ^ 64) : lN v < 0 ↔ fsg 46 v = 1 := by
  rw [lt0, toInt_un, un_lN' hv]
  show _ ↔ v / 2 ^ 63 % 2 = 1
  simp only [Nat.reducePow, Int.reducePow] at hv ⊢
  by_cases c : v < 9223372036854775808
  · rw [if_pos c]; omega
  · rw [if_neg c]; omega
def sgZ (v : Nat) : Int := if fsg 46 v = 1 then -1 else 1
theorem z_signOf {v : Nat} (hv : v < 2 ^ 64) : Er (d + 1) 100 (0, ent 100 [.long (lN v)], [], S) (.inl (some (.int (iZ (sgZ v)))), S, 0) := by
  unfold sgZ
  refine b100_0 (fun z => ?_) (fun z => ?_)
  · rw [lt0_N hv] at z
    rw [if_neg z]
    exact b100_10 b100_11
  · rw [lt0_N hv] at z
    rw [if_pos z]
    exact b100_6 b100_11
theorem fin_ex (v : Nat) : fsz 46 v < fe 46 * 2 ^ fb 46 ↔ fex 46 v ≠ 2047 := by
  have h := fex46 v
  show v % 9223372036854775808 < 2047 * 4503599627370496 ↔ _
  omega
theorem ex_2047 (v : Nat) : nI (fex 46 v) = 2047 ↔ fex 46 v = 2047 := by
  have h := fex46 v
  exact nI_eq (b := 2047) (by omega) (by decide)
theorem z_realx {v : Nat} (hv : v < 2 ^ 64) (h : ¬ fsz 46 v < fe 46 * 2 ^ fb 46) : Ml (d + 2) 95 [.ref 1, .long (lN v)] σ (.int 0) σ 1 := by
  intro rv f hB
  rw [fin_ex] at h
  exact ⟨rv, upi f 0 1, hB, upi_s _ _ _, b95_0 (z_exp hv) (b95_4 (fun z => absurd ((ex_2047 v).mpr (by omega)) z) (fun _ => b95_10 k1 z_fails b95_15))⟩
theorem z_real {v : Nat} (hD : Db n sg P Q) (hM : MD σ n sg P Q) (hv : v < 2 ^ 64) (h : fsz 46 v < fe 46 * 2 ^ fb 46) : Ml (d + 4) 95 [.ref 1, .long (lN v)] σ (.int (maV n (realT v))) (maS σ n (realT v)) (maC n (realT v) 2) := by
  intro rv f hB
  rw [fin_ex] at h
  have hf := fsi_53 (n := v)
  have hc : -1074 ≤ fsc 46 v ∧ fsc 46 v ≤ 972 := fsc_rng
  obtain ⟨F, hF⟩ : ∃ F, F = fsi 46 v := ⟨_, rfl⟩
  obtain ⟨c, hcc⟩ : ∃ c, c = fsc 46 v := ⟨_, rfl⟩
  rw [← hF] at hf
  rw [← hcc] at hc
  have h13 : (1 : Nat) < Bp 63 := B63 (k := 1) (by decide) (by decide)
  have B1 : BM (up rv 0 F) := BM_up hB (B64 (B63 hf (by decide)))
  have B2 : BM (up (up rv 0 F) 1 1) := BM_up B1 (B64 h13)
  have tp := mp_lt (m := 2016) hf (show 53 + c.toNat ≤ 2016 by omega)
  have tq : 2 ^ (-c).toNat < 2 ^ 2016 := pw_lt (by omega)
  have tp3 : F * 2 ^ c.toNat < Bp 63 := tp
  have tq3 : 2 ^ (-c).toNat < Bp 63 := tq
  have B3 : BM (up (up rv 0 (F * 2 ^ c.toNat)) 1 (2 ^ (-c).toNat)) := BM_up (BM_up hB (B64 tp3)) (B64 tq3)
  have r0 : up (up rv 0 (F * 2 ^ c.toNat)) 1 (2 ^ (-c).toNat) 0 = F * 2 ^ c.toNat := by rw [up_n (by decide), up_s]
  have r1 : up (up rv 0 (F * 2 ^ c.toNat)) 1 (2 ^ (-c).toNat) 1 = 2 ^ (-c).toNat := up_s _ _ _
  obtain ⟨rv2, f2, b2, e2, hr⟩ := z_mk (d := d) (f := f) (σ := σ) (rv := up (up rv 0 (F * 2 ^ c.toNat)) 1 (2 ^ (-c).toNat)) (s := sgZ v) (c := 2) (T := realT v) hM.1 hD.1 B3 (by rw [r1]; exact Nat.two_pow_pos _) (by rw [r0]; exact tp3) (by rw [r1]; exact tq3) (by rw [r0, r1, hF, hcc]; rfl)
  have tf := z_fac (d := d + 1) (S := ZS σ rv f) hv
  rw [← hF] at tf
  have tc := z_place (d := d + 1) (S := ZS σ (up (up rv 0 F) 1 1) f) hv
  rw [← hcc] at tc
  refine ⟨rv2, f2, b2, e2, b95_0 (z_exp hv) (b95_4 (fun _ => b95_16 tf (b95_22 k1 (z_set (r := 0) (by decide) hB (Nat.lt_trans hf (by decide))) (b95_25 k1 (z_set (r := 1) (n := 1) (by decide) B1 (by decide)) (b95_31 tc ?_)))) (fun z => absurd ((ex_2047 v).mp z) h))⟩
  have fin : ∀ {z : Int32}, Er (d + 4) 95 (56, [some (.ref 1), some (.long (lN v)), none, some (.int z)], [], ZS σ (up (up rv 0 (F * 2 ^ c.toNat)) 1 (2 ^ (-c).toNat)) f) (.inl (some (.int (maV n (realT v)))), ZS (maS σ n (realT v)) rv2 f2, 0) := by
    intro z
    exact b95_56 (z_signOf hv) (b95_61 k1 hr b95_65)
  have zc : iZ c ≤ 0 ↔ c ≤ 0 := by
    rw [iZ0]
    exact iZ_le (by omega) (by omega) (by decide) (by decide)
  by_cases g : c ≤ 0
  · refine b95_35 (fun _ => ?_) (fun z => absurd (zc.mpr g) z)
    have t := z_up (d := d + 2) (σ := σ) (rv := up (up rv 0 F) 1 1) (f := f) (r := 1) (n := (-c).toNat) (by decide) B2 (by omega) (by rw [up_s, Nat.one_mul]; exact B64 tq3)
    rw [up_s, Nat.one_mul, up_up] at t
    have e1 : c.toNat = 0 := by omega
    have e2 : -iZ c = nI (-c).toNat := by
      rw [iZ_neg, ← iZ_N]
      congr 1
      omega
    rw [e1, Nat.pow_zero, Nat.mul_one] at fin
    refine b95_49 k1 ?_ fin
    rw [e2]
    exact t
  · refine b95_35 (fun z => absurd (zc.mp z) g) (fun _ => ?_)
    have t := z_up (d := d + 2) (σ := σ) (rv := up (up rv 0 F) 1 1) (f := f) (r := 0) (n := c.toNat) (by decide) B2 (by omega) (by rw [up_n (by decide), up_s]; exact B64 tp3)
    have e1 : (-c).toNat = 0 := by omega
    have e2 : iZ c = nI c.toNat := by
      rw [← iZ_N]
      congr 1
      omega
    have e3 : up (up (up rv 0 F) 1 1) 0 (up (up rv 0 F) 1 1 0 * 2 ^ c.toNat) = up (up rv 0 (F * 2 ^ c.toNat)) 1 1 := by
      rw [up_n (by decide), up_s]
      funext j
      unfold up
      by_cases h1 : j = 0
      · rw [if_pos h1, if_neg (by omega), if_pos h1]
      · rw [if_neg h1]
        by_cases h2 : j = 1
        · rw [if_pos h2, if_pos h2]
        · rw [if_neg h2, if_neg h2, if_neg h1, if_neg h1]
    rw [e3] at t
    rw [e1, Nat.pow_zero] at fin
    refine b95_40 k1 ?_ (b95_46 fin)
    rw [e2]
    exact t
/-! a number's sign, words, bits -/
theorem z_num {a : Nat} (hn : gfi S 1 1 = nI n) (h60 : n ≤ 60) (ha : a < n) : Er (d + 1) 102 (0, ent 102 [.ref 1, .int (nI a)], [], S) (.inl (some (.int 1)), S, 0) := by
  refine b102_0 (fun q => absurd q (nI_pos (by omega))) (fun _ => ?_)
  exact b102_4 k1 (fun q => absurd q (by rw [hn]; exact nI_ge ha (by omega))) (fun _ => b102_12 (b102_17 rfl))
theorem z_numx {x : Int32} (hn : gfi S 1 1 = nI n) (h60 : n ≤ 60) (hx : ¬ ∃ a, a < n ∧ x = nI a) : Er (d + 1) 102 (0, ent 102 [.ref 1, .int x], [], S) (.inl (some (.int 0)), S, 0) := by
  refine b102_0 (fun _ => b102_16 (b102_17 rfl)) (fun h0 => ?_)
  obtain ⟨j, hj, rfl⟩ := nI_of h0
  refine b102_4 k1 (fun _ => b102_16 (b102_17 rfl)) (fun h1 => ?_)
  rw [hn, nI_leI (by omega) hj] at h1
  exact absurd ⟨j, by omega, rfl⟩ hx
theorem zn {hM : MD σ n sg P Q} : gfi (ZS σ rv f) 1 1 = nI n := by rw [ZS_many]; exact hM.1
theorem z_clear (hM : MD σ n sg P Q) : Ml (d + 1) 114 [.ref 1] σ (.int (nI n)) (sfi σ 1 1 0) 0 := by
  intro rv f hB
  have t := b114_0 (d := d) (x0 := 1) (σ := ZS σ rv f) ⟨by decide, rfl, rfl⟩ k1 ⟨by decide, rfl, rfl⟩
  rw [ZS_set (by decide), ZS_setm, ZS_many, hM.1] at t
  exact ⟨rv, upi f 0 0, hB, upi_s _ _ _, t⟩
theorem z_count (hM : MD σ n sg P Q) : Ml (d + 1) 115 [.ref 1] σ (.int (nI n)) σ 0 := by
  intro rv f hB
  have t := b115_0 (d := d) (x0 := 1) (σ := ZS σ rv f) ⟨by decide, rfl, rfl⟩ k1
  rw [ZS_set (by decide), ZS_many, hM.1] at t
  exact ⟨rv, upi f 0 0, hB, upi_s _ _ _, t⟩
theorem z_wordx {x1 x2 : Int32} (hD : Db n sg P Q) (hM : MD σ n sg P Q) (h : ¬ ((∃ a, a < n ∧ x1 = nI a) ∧ ∃ k, k < 16 ∧ x2 = nI k)) : Ml (d + 2) 116 [.ref 1, .int x1, .int x2] σ (.long 0) σ 1 := by
  intro rv f hB
  have hn : gfi (ZS σ rv f) 1 1 = nI n := zn (hM := hM)
  have bad : Er (d + 2) 116 (18, [some (.ref 1), some (.int x1), some (.int x2)], [], ZS σ rv f) (.inl (some (.long 0)), ZS σ rv (upi f 0 1), 0) := b116_18 k1 z_fails b116_23
  refine ⟨rv, upi f 0 1, hB, upi_s _ _ _, ?_⟩
  by_cases ha : ∃ a, a < n ∧ x1 = nI a
  · obtain ⟨a, ha, rfl⟩ := ha
    refine b116_0 k1 (z_num hn hD.1 ha) (b116_5 (fun z => absurd z (by decide)) (fun _ => b116_8 (fun _ => bad) (fun z => b116_12 (fun w => ?_) (fun _ => bad))))
    obtain ⟨j, hj, rfl⟩ := nI_of z
    rw [show (15 : Int32) = nI 15 from rfl, nI_leI hj (by decide)] at w
    exact absurd ⟨⟨a, ha, rfl⟩, j, by omega, rfl⟩ h
  · exact b116_0 k1 (z_numx hn hD.1 ha) (b116_5 (fun _ => bad) (fun z => absurd rfl z))
theorem z_word {a k : Nat} (hD : Db n sg P Q) (hM : MD σ n sg P Q) (ha : a < n) (hk : k < 16) : Ml (d + 2) 116 [.ref 1, .int (nI a), .int (nI k)] σ (.long (wordV P Q a k)) σ 0 := by
  intro rv f hB
  have hn : gfi (ZS σ rv f) 1 1 = nI n := zn (hM := hM)
  have h60 := hD.1
  refine ⟨rv, upi f 0 0, hB, upi_s _ _ _, b116_0 k1 (z_num hn hD.1 ha) (b116_5 (fun z => absurd z (by decide)) (fun _ => b116_8 (fun z => absurd z (nI_pos (by omega))) (fun _ => b116_12 (fun _ => ?_) (fun z => absurd (nI_le (b := 15) (by omega) (by decide)) z))))⟩
  have e : (16 : Int32) * nI a + nI k = nI (16 * a + k) := by rw [show (16 : Int32) = nI 16 from rfl, pk_mul, nI_add]
  have t := b116_25 (d := d + 1) (x0 := 1) (x1 := nI a) (x2 := nI k) (σ := ZS σ rv f) ⟨by decide, rfl, rfl⟩ k1 ⟨isL43, by rw [e]; exact vp_in_nI (by show 16 * a + k < 960; omega) (by decide)⟩
  rw [e, f13, ZS_set (by decide), ZS_al (by decide), nI_32 (by omega)] at t
  have ev : gal σ 43 (16 * a + k) = wordV P Q a k := by
    unfold wordV
    obtain ⟨_, h2, h3⟩ := hM.2 a ha
    by_cases c : k < 8
    · rw [if_pos c, h2 k c]
    · rw [if_neg c, ← h3 (k - 8) (by omega)]
      congr 1
      omega
  rw [ev] at t
  exact t
theorem z_signx {x1 : Int32} (hD : Db n sg P Q) (hM : MD σ n sg P Q) (h : ¬ ∃ a, a < n ∧ x1 = nI a) : Ml (d + 2) 117 [.ref 1, .int x1] σ (.int 0) σ 1 := by
  intro rv f hB
  exact ⟨rv, upi f 0 1, hB, upi_s _ _ _, b117_0 k1 (z_numx (zn (hM := hM)) hD.1 h) (b117_5 (fun z => absurd rfl z) (fun _ => b117_8 k1 z_fails b117_13))⟩
theorem z_sg {a : Nat} (hD : Db n sg P Q) (hM : MD σ n sg P Q) (ha : a < n) : gai (ZS σ rv f) (fr 1 2) (nI a).toNatClampNeg = iZ (sg a) := by
  have h60 := hD.1
  rw [ZS_ai, f12, nI_32 (by omega)]
  exact (hM.2 a ha).1
theorem in42 {a : Nat} (h60 : n ≤ 60) (ha : a < n) : ((fr 1 2) = 41 ∨ (fr 1 2) = 42) ∧ vp_in (nI a) (ale (fr 1 2)) := ⟨Or.inr rfl, vp_in_nI (by show a < 60; omega) (by decide)⟩
theorem z_sign {a : Nat} (hD : Db n sg P Q) (hM : MD σ n sg P Q) (ha : a < n) : Ml (d + 2) 117 [.ref 1, .int (nI a)] σ (.int (iZ (sg a))) σ 0 := by
  intro rv f hB
  refine ⟨rv, upi f 0 0, hB, upi_s _ _ _, b117_0 k1 (z_num (zn (hM := hM)) hD.1 ha) (b117_5 (fun _ => ?_) (fun z => absurd z (by decide)))⟩
  have t := b117_14 (d := d + 1) (x0 := 1) (x1 := nI a) (σ := ZS σ rv f) ⟨by decide, rfl, rfl⟩ k1 (by decide) (in42 hD.1 ha)
  rw [ZS_set (by decide), z_sg hD hM ha] at t
  exact t
theorem z_bitsx {x1 x2 : Int32} (hD : Db n sg P Q) (hM : MD σ n sg P Q) (h : ¬ ∃ a, a < n ∧ x1 = nI a) : Ml (d + 2) 118 [.ref 1, .int x1, .int x2] σ (.int 0) σ 1 := by
  intro rv f hB
  exact ⟨rv, upi f 0 1, hB, upi_s _ _ _, b118_0 k1 (z_numx (zn (hM := hM)) hD.1 h) (b118_5 (fun z => absurd rfl z) (fun _ => b118_8 k1 z_fails b118_13))⟩
theorem z_bits {a : Nat} {x2 : Int32} (hD : Db n sg P Q) (hM : MD σ n sg P Q) (ha : a < n) : Ml (d + 3) 118 [.ref 1, .int (nI a), .int x2] σ (.int (nI (if x2 = 0 then bln (Q a) else bln (P a)))) σ 0 := by
  intro rv f hB
  obtain ⟨hP, hQ, _⟩ := hD.2 a ha
  have es : sfi (ZS σ rv f) 1 0 0 = ZS σ rv (upi f 0 0) := ZS_set (by decide)
  by_cases c : x2 = 0
  · have Bq : BM (up rv 2 (Q a)) := BM_up hB (Bp8_64 hQ)
    have t := z_lenM (d := d + 1) (σ := σ) (rv := up rv 2 (Q a)) (f := upi f 0 0) (r := 2) (by decide) Bq
    rw [up_s] at t
    rw [if_pos c]
    refine ⟨_, upi f 0 0, Bq, upi_s _ _ _, b118_0 k1 (z_num (zn (hM := hM)) hD.1 ha) (b118_5 (fun _ => b118_14 ⟨by decide, rfl, rfl⟩ (fun _ => ?_) (fun z => absurd c z)) (fun z => absurd z (by decide)))⟩
    rw [es]
    exact b118_32 k1 (z_loadQ (r := 2) hD hM ha (by decide) hB) (b118_38 k1 t b118_43)
  · have Bq : BM (up rv 2 (P a)) := BM_up hB (Bp8_64 hP)
    have t := z_lenM (d := d + 1) (σ := σ) (rv := up rv 2 (P a)) (f := upi f 0 0) (r := 2) (by decide) Bq
    rw [up_s] at t
    rw [if_neg c]
    refine ⟨_, upi f 0 0, Bq, upi_s _ _ _, b118_0 k1 (z_num (zn (hM := hM)) hD.1 ha) (b118_5 (fun _ => b118_14 ⟨by decide, rfl, rfl⟩ (fun z => absurd z c) (fun _ => ?_)) (fun z => absurd z (by decide)))⟩
    rw [es]
    exact b118_23 k1 (z_loadP (r := 2) hD hM ha (by decide) hB) (b118_29 (b118_38 k1 t b118_43))
end
