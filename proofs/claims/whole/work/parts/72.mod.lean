/-! the reference: doubles of the machine -/
theorem xor_m1 (x : Int64) : x ^^^ (-1) = -x - 1 := by
  apply Int64.toBitVec_inj.mp
  show x.toBitVec ^^^ (-1#64) = -x.toBitVec - 1#64
  rw [show (-1#64) = BitVec.allOnes 64 by decide, BitVec.xor_allOnes, BitVec.neg_eq_not_add, BitVec.add_sub_cancel]
theorem sgB_1 {v : Nat} : sgB v = true ↔ fsg 46 v = 1 := by
  unfold sgB
  exact decide_eq_true_iff
theorem v_split {v : Nat} (hv : v < 2 ^ 64) : v = fsz 46 v + sbit 46 (sgB v) := by
  have h : sbit 46 (sgB v) = if fsg 46 v = 1 then 9223372036854775808 else 0 := by
    unfold sbit sgB
    by_cases c : fsg 46 v = 1
    · rw [if_pos (decide_eq_true c), if_pos c]
      rfl
    · rw [if_neg (by rw [decide_eq_true_eq]; exact c), if_neg c]
  rw [h]
  show v = v % 9223372036854775808 + if v / 9223372036854775808 % 2 = 1 then 9223372036854775808 else 0
  simp only [Nat.reducePow] at hv
  split <;> omega
theorem and_max (v : Nat) : lN v &&& 9223372036854775807 = lN (fsz 46 v) := and_N (n := v) (m := 9223372036854775807) 63 rfl (by decide)
theorem and_sgn {v : Nat} (hv : v < 2 ^ 64) : lN v &&& -9223372036854775808 = lN (sbit 46 (sgB v)) := by
  apply un_inj
  have e : (-9223372036854775808 : Int64) = lN (2 ^ 63) := by decide
  rw [un_and, e, un_lN' hv, un_lN' (by decide), and_bit, un_lN']
  · unfold sbit sgB
    show _ = if decide (v / 2 ^ 63 % 2 = 1) = true then 2 ^ 63 else 0
    by_cases c : v / 2 ^ 63 % 2 = 1
    · rw [if_pos c, if_pos (decide_eq_true c)]
    · rw [if_neg c, if_neg (by rw [decide_eq_true_eq]; exact c)]
  · unfold sbit
    split
    · show 2 ^ 63 < 2 ^ 64
      decide
    · decide
/-- a size and a sign -/
theorem or_sgn {v E : Nat} (hv : v < 2 ^ 64) (hE : E < 2 ^ 63) : lN E ||| (lN v &&& -9223372036854775808) = lN (E + sbit 46 (sgB v)) := by
  rw [and_sgn hv]
  cases sgB v with
  | false =>
    show lN E ||| lN 0 = lN (E + 0)
    rw [lN_0, Int64.or_zero, Nat.add_zero]
  | true =>
    show lN E ||| lN (2 ^ 63) = lN (E + 2 ^ 63)
    have o := or_N (a := 1) (b := E) (k := 63) hE (by decide)
    rw [Nat.one_mul] at o
    rw [Int64.or_comm, o, Nat.add_comm (2 ^ 63) E]
theorem ew_b {x s : Nat} {z : Int} {b : Bool} : ew x b s z = ew x false s z + sbit x b := by
  unfold ew
  rw [encV_b0 (b := b)]
  show _ = _ + 0 + _
  rw [Nat.add_zero]
theorem ew_lt {x s : Nat} {z : Int} (h : FO x) : ew x false s z < 2 ^ fs x := by
  unfold ew
  show _ + 0 < _
  rw [Nat.add_zero]
  split
  · exact Nat.two_pow_pos _
  · exact encV_lt h
theorem ew_or {v s : Nat} {z : Int} (hv : v < 2 ^ 64) : lN (ew 46 false s z) ||| (lN v &&& -9223372036854775808) = lN (ew 46 (sgB v) s z) := by
  rw [or_sgn hv (ew_lt O46), ← ew_b]
/-- what is taken apart is put together again -/
theorem ew_self {v : Nat} (hv : v < 2 ^ 64) (hfin : fsz 46 v < infN) : ew 46 (sgB v) (fsi 46 v) (fsc 46 v) = v := by
  rw [ew_b]
  have hs := v_split hv
  have he : ew 46 false (fsi 46 v) (fsc 46 v) = fsz 46 v := by
    unfold ew
    show _ + 0 = _
    rw [Nat.add_zero]
    by_cases c : fsi 46 v = 0
    · rw [if_pos c, (fsi_0 O46).mp c]
    · rw [if_neg c]
      have hx := fex46 v
      have hp := inf_ex v
      have hc := fsc46 v
      have hi : infN = 2047 * 4503599627370496 := rfl
      have hpl : v % 2 ^ 52 < 4503599627370496 := Nat.mod_lt _ (by decide)
      obtain ⟨m, hm⟩ : ∃ m, m = v % 2 ^ 52 := ⟨_, rfl⟩
      have hf : fsi 46 v = if fex 46 v = 0 then m else 4503599627370496 + m := by rw [hm]; rfl
      rw [← hm] at hp hpl
      obtain ⟨K, hK⟩ : ∃ K, K = (fsc 46 v + fz 46).toNat := ⟨_, rfl⟩
      have hz : ((fz 46 : Nat) : Int) = 1074 := rfl
      have e1 : (-(fsc 46 v + fz 46)).toNat = 0 := by
        rw [hz, hc]
        split <;> omega
      have hK2 : K = fex 46 v - 1 := by
        rw [hK, hz, hc]
        split <;> omega
      rw [e1, ← hK, Nat.pow_zero]
      have hF53 : fsi 46 v < 2 ^ 53 := fsi_53
      have q : fsi 46 v * 2 ^ K / (1 * 2 ^ K) = fsi 46 v := by rw [Nat.one_mul, Nat.mul_div_cancel _ (Nat.two_pow_pos _)]
      have isk : isK 46 (fsi 46 v * 2 ^ K) 1 K := by
        unfold isK
        rw [q]
        refine ⟨hF53, ?_⟩
        show K = 0 ∨ 4503599627370496 ≤ _
        rw [hf]
        split <;> omega
      rw [← encV_eq (by decide) isk, enc_R (by decide)]
      have r : rndQ 0 false (fsi 46 v * 2 ^ K) (1 * 2 ^ K) = fsi 46 v := by
        rw [rndQ_scale (Nat.two_pow_pos _), rndQ_exact]
      rw [r]
      unfold encR
      show (if 2047 ≤ K + 1 ∨ 2047 * 4503599627370496 ≤ K * 4503599627370496 + fsi 46 v then _ else K * 4503599627370496 + fsi 46 v) = _
      rw [hf]
      by_cases z : fex 46 v = 0
      · rw [if_pos z, if_neg (by omega)]
        omega
      · rw [if_neg z, if_neg (by omega)]
        omega
  rw [he, ← hs]
section
variable {d n a v w : Nat} {σ : St} {rv : Nat → Nat} {f : Nat → Int32} {S : St}
theorem z_rank (hv : v < 2 ^ 64) : Er (d + 1) 134 (0, ent 134 [.long (lN v)], [], S) (.inl (some (.long (lZ (rankZ v)))), S, 0) := by
  unfold rankZ
  have hs := v_split hv
  have hb := @sgB_1 v
  refine b134_0 (fun z => ?_) (fun z => ?_)
  · rw [lt0_N hv] at z
    have eb : sgB v = false := by
      cases h : sgB v with
      | false => rfl
      | true => exact absurd (hb.mp h) z
    rw [eb] at hs ⊢
    have e : lN v = lZ (if false = true then -(fsz 46 v : Int) - 1 else fsz 46 v) := by
      show _ = lZ ((fsz 46 v : Nat) : Int)
      rw [lZ_N]
      congr 1
    rw [← e]
    exact b134_18 b134_19
  · rw [lt0_N hv] at z
    rw [hb.mpr z]
    have e : (lN v &&& 9223372036854775807) ^^^ -1 = lZ (if true = true then -(fsz 46 v : Int) - 1 else fsz 46 v) := by
      rw [and_max, xor_m1, if_pos rfl, ← lZ_N, lZ_neg, show (1 : Int64) = lZ 1 from rfl, lZ_sub]
    refine b134_6 ?_
    rw [e]
    exact b134_19
def rcode (m k : Nat) : Int32 := if m % 2 ^ k = 0 then 0 else if m % 2 ^ k < 2 ^ (k - 1) then 1 else if m % 2 ^ k = 2 ^ (k - 1) then 2 else 3
theorem z_front0 (hv : v < 2 ^ 64) (h : 0 ≤ fsc 46 v) : Er (d + 3) 133 (0, ent 133 [.ref 1, .long (lN v)], [], ZS σ rv f) (.inl (some (.long (lN (fsi 46 v)))), ZS σ rv (upi f 9 0), 0) := by
  have hc : -1074 ≤ fsc 46 v ∧ fsc 46 v ≤ 972 := fsc_rng
  have zc : 0 ≤ iZ (fsc 46 v) ↔ 0 ≤ fsc 46 v := by
    rw [iZ0]
    exact iZ_le (by decide) (by decide) (by omega) (by omega)
  refine b133_0 (z_place hv) (b133_4 (z_fac hv) (b133_9 ⟨by decide, rfl, rfl⟩ (fun _ => ?_) (fun z => absurd (zc.mpr h) z)))
  rw [ZS_set (by decide)]
  exact b133_27
theorem z_front {k : Nat} (hv : v < 2 ^ 64) (hk0 : 0 < k) (hk : fsc 46 v = -(k : Int)) : Er (d + 3) 133 (0, ent 133 [.ref 1, .long (lN v)], [], ZS σ rv f) (.inl (some (.long (lN (fsi 46 v / 2 ^ k)))), ZS σ rv (upi f 9 (rcode (fsi 46 v) k)), 0) := by
  have hc : -1074 ≤ fsc 46 v ∧ fsc 46 v ≤ 972 := fsc_rng
  rw [hk] at hc
  have tp := z_place (d := d) (v := v) (S := ZS σ rv f) hv
  rw [hk] at tp
  have hf := fsi_53 (n := v)
  obtain ⟨m, hm⟩ : ∃ m, m = fsi 46 v := ⟨_, rfl⟩
  have tf := z_fac (d := d) (v := v) (S := ZS σ rv f) hv
  rw [← hm] at hf tf ⊢
  have zc : 0 ≤ iZ (-(k : Int)) ↔ False := by
    rw [iZ0, iZ_le (by decide) (by decide) (by omega) (by omega)]
    constructor
    · intro z; omega
    · intro z; exact z.elim
  have m64 : m < 2 ^ 64 := Nat.lt_trans hf (by decide)
  have l0 : lN m = 0 ↔ m = 0 := lN_inj (b := 0) m64 (by decide)
  have s9 : ∀ {v9 : Int32} {g : Nat → Int32}, sfi (ZS σ rv g) 1 9 v9 = ZS σ rv (upi g 9 v9) := ZS_set (by decide)
  have uu : ∀ {v9 v8 : Int32}, upi (upi f 9 v8) 9 v9 = upi f 9 v9 := by
    intro v9 v8
    funext j
    unfold upi
    by_cases c : j = 9
    · rw [if_pos c, if_pos c]
    · rw [if_neg c, if_neg c, if_neg c]
  refine b133_0 tp (b133_4 tf (b133_9 ⟨by decide, rfl, rfl⟩ (fun z => (zc.mp z).elim) (fun _ => ?_)))
  rw [s9]
  by_cases c0 : m = 0
  · have e1 : rcode m k = 0 := by
      unfold rcode
      rw [c0, Nat.zero_mod, if_pos rfl]
    rw [e1, c0, Nat.zero_div]
    rw [c0] at l0
    exact b133_20 (fun z => absurd rfl z) (fun _ => b133_27)
  · refine b133_20 (fun _ => ?_) (fun z => absurd (l0.mp z) c0)
    have z53 : (-53 : Int32) ≤ iZ (-(k : Int)) ↔ k ≤ 53 := by
      rw [show (-53 : Int32) = iZ (-53) by decide, iZ_le (by decide) (by decide) (by omega) (by omega)]
      omega
    by_cases c1 : k ≤ 53
    · refine b133_30 (fun _ => ?_) (fun z => absurd (z53.mpr c1) z)
      have en : -iZ (-(k : Int)) = nI k := by
        rw [iZ_neg, ← iZ_N]
        congr 1
        omega
      have en1 : nI k - 1 = nI (k - 1) := by
        have := nI_pred (k - 1)
        rw [show k - 1 + 1 = k by omega] at this
        exact this
      have sh : (1 : Int64) <<< ((-iZ (-(k : Int))).toInt64 &&& 63) = lN (2 ^ k) := by rw [en, one_shl (by omega)]
      have sh1 : (1 : Int64) <<< ((-iZ (-(k : Int)) - 1).toInt64 &&& 63) = lN (2 ^ (k - 1)) := by rw [en, en1, one_shl (by omega)]
      have pw := Nat.two_pow_pos k
      have msk : lN m &&& ((1 : Int64) <<< ((-iZ (-(k : Int))).toInt64 &&& 63) - 1) = lN (m % 2 ^ k) := by
        rw [sh]
        have : lN (2 ^ k) - 1 = lN (2 ^ k - 1) := lN_sub (b := 1) pw
        rw [this]
        exact and_N k rfl (by omega)
      obtain ⟨r, hr⟩ : ∃ r, r = m % 2 ^ k := ⟨_, rfl⟩
      obtain ⟨H, hH⟩ : ∃ H, H = 2 ^ (k - 1) := ⟨_, rfl⟩
      have hH63 : H < 2 ^ 63 := by rw [hH]; exact pw_lt (by omega)
      have hr63 : r < 2 ^ 63 := by
        rw [hr]
        exact Nat.lt_of_le_of_lt (Nat.mod_le _ _) (Nat.lt_trans hf (by decide))
      have r0 : lN r = 0 ↔ r = 0 := lN_inj (b := 0) (by omega) (by decide)
      have rq : lN r = lN H ↔ r = H := lN_inj (by omega) (by omega)
      have er : rcode m k = if r = 0 then 0 else if r < H then 1 else if r = H then 2 else 3 := by rw [hr, hH]; rfl
      rw [← hr] at msk
      have sv : lN m >>> ((-iZ (-(k : Int))).toInt64 &&& 63) = lN (m / 2 ^ k) := by
        rw [en]
        exact shr_N (s := nI k) k (Nat.lt_trans hf (by decide)) rfl (by omega)
      have last : ∀ {g : Int32} {x6 x8 : Int64}, rcode m k = g → Er (d + 3) 133 (99, [some (.ref 1), some (.long (lN v)), none, some (.int (iZ (-(k : Int)))), some (.long (lN m)), none, some (.long x6), none, some (.long x8), none], [.int g, .ref 1], ZS σ rv (upi f 9 0)) (.inl (some (.long (lN (m / 2 ^ k)))), ZS σ rv (upi f 9 (rcode m k)), 0) := by
        intro g x6 x8 e
        have t := b133_99 (d := d + 2) (x0 := 1) (x1 := lN v) (x3 := iZ (-(k : Int))) (x4 := lN m) (x6 := x6) (x8 := x8) (s0 := 1) (s1 := g) (σ := ZS σ rv (upi f 9 0)) ⟨by decide, rfl, rfl⟩
        rw [s9, uu, sv] at t
        rw [e]
        exact t
      refine b133_43 (fun z => ?_) (fun z => ?_)
      · rw [msk, r0] at z
        rw [msk, sh1, ← hH]
        refine b133_74 (fun w => ?_) (fun w => b133_82 (last ?_))
        · rw [ltN hr63 hH63] at w
          refine b133_86 (fun y => b133_98 (last ?_)) (fun y => b133_94 (last ?_))
          · rw [rq] at y
            rw [er, if_neg z, if_neg w, if_neg y]
          · rw [rq] at y
            rw [er, if_neg z, if_neg w, if_pos y]
        · rw [ltN hr63 hH63] at w
          rw [er, if_neg z, if_pos w]
      · rw [msk, r0] at z
        rw [msk, sh1]
        refine b133_70 (last ?_)
        rw [er, if_pos z]
    · have hlt : m < 2 ^ (k - 1) := Nat.lt_of_lt_of_le hf (Nat.pow_le_pow_right (by decide) (by omega))
      have hlt2 : m < 2 ^ k := Nat.lt_of_lt_of_le hlt (Nat.pow_le_pow_right (by decide) (by omega))
      have e1 : rcode m k = 1 := by
        unfold rcode
        rw [Nat.mod_eq_of_lt hlt2, if_neg c0, if_pos hlt]
      rw [e1, Nat.div_eq_of_lt hlt2]
      refine b133_30 (fun z => absurd (z53.mp z) c1) (fun _ => ?_)
      have t := b133_36 (d := d + 2) (x0 := 1) (x1 := lN v) (x3 := iZ (-(k : Int))) (x4 := lN m) (σ := ZS σ rv (upi f 9 0)) ⟨by decide, rfl, rfl⟩
      rw [s9, uu] at t
      exact t
end
