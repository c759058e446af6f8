/-! longs and ints by numbers -/
def un (x : Int64) : Nat := x.toBitVec.toNat
theorem un_lt (x : Int64) : un x < 2 ^ 64 := x.toBitVec.isLt
theorem un_lN (n : Nat) : un (lN n) = n % 2 ^ 64 := rfl
theorem un_lN' {n : Nat} (h : n < 2 ^ 64) : un (lN n) = n := Nat.mod_eq_of_lt h
theorem un_inj {x y : Int64} (h : un x = un y) : x = y := Int64.toBitVec_inj.mp (BitVec.eq_of_toNat_eq h)
theorem lN_un (x : Int64) : lN (un x) = x := un_inj (un_lN' (un_lt x))
theorem lN_inj {a b : Nat} (ha : a < 2 ^ 64) (hb : b < 2 ^ 64) : lN a = lN b ↔ a = b := by
  constructor
  · intro h
    rw [← un_lN' ha, ← un_lN' hb, h]
  · rintro rfl; rfl
theorem lN_mod (n : Nat) : lN (n % 2 ^ 64) = lN n := un_inj (by rw [un_lN, un_lN, Nat.mod_mod])
theorem un_and (x y : Int64) : un (x &&& y) = un x &&& un y := by
  unfold un; rw [Int64.toBitVec_and, BitVec.toNat_and]
theorem un_or (x y : Int64) : un (x ||| y) = un x ||| un y := by
  unfold un; rw [Int64.toBitVec_or, BitVec.toNat_or]
theorem un_add (x y : Int64) : un (x + y) = (un x + un y) % 2 ^ 64 := by
  unfold un; rw [Int64.toBitVec_add, BitVec.toNat_add]
theorem un_neg (x : Int64) : un (-x) = (2 ^ 64 - un x) % 2 ^ 64 := by
  unfold un; rw [Int64.toBitVec_neg, BitVec.toNat_neg]
theorem sh_amt : ∀ k, k < 64 → (((nI k).toInt64.toUInt64 &&& Int64.toUInt64 63).toBitVec % 64).toNat = k := by decide +kernel
theorem sh_ams : ∀ k, k < 64 → (((nI k).toInt64 &&& 63).toBitVec.smod 64).toNat = k := by decide +kernel
theorem un_ushr (x : Int64) {s : Int32} (k : Nat) (hs : s = nI k) (hk : k < 64) : un (x.toUInt64 >>> (s.toInt64.toUInt64 &&& Int64.toUInt64 63)).toInt64 = un x / 2 ^ k := by
  subst hs
  show (x.toBitVec >>> (((nI k).toInt64.toUInt64 &&& Int64.toUInt64 63).toBitVec % 64)).toNat = _
  rw [BitVec.ushiftRight_eq', sh_amt k hk, BitVec.toNat_ushiftRight, Nat.shiftRight_eq_div_pow]
  rfl
theorem un_shl (x : Int64) {s : Int32} (k : Nat) (hs : s = nI k) (hk : k < 64) : un (x <<< (s.toInt64 &&& 63)) = un x * 2 ^ k % 2 ^ 64 := by
  subst hs
  show (x.toBitVec <<< (((nI k).toInt64 &&& 63).toBitVec.smod 64)).toNat = _
  rw [BitVec.shiftLeft_eq', sh_ams k hk, BitVec.toNat_shiftLeft, Nat.shiftLeft_eq]
  rfl
theorem shr_I (x : Int64) {s : Int32} (k : Nat) (hs : s = nI k) (hk : k < 64) : (x >>> (s.toInt64 &&& 63)).toInt = x.toInt / 2 ^ k := by
  subst hs
  show (x.toBitVec.sshiftRight' (((nI k).toInt64 &&& 63).toBitVec.smod 64)).toInt = _
  rw [BitVec.toInt_sshiftRight', sh_ams k hk, Int.shiftRight_eq_div_pow]
  rfl
theorem ushr_N {n : Nat} {s : Int32} (k : Nat) (hn : n < 2 ^ 64) (hs : s = nI k) (hk : k < 64) : ((lN n).toUInt64 >>> (s.toInt64.toUInt64 &&& Int64.toUInt64 63)).toInt64 = lN (n / 2 ^ k) := by
  apply un_inj
  rw [un_ushr _ k hs hk, un_lN' hn, un_lN']
  exact Nat.lt_of_le_of_lt (Nat.div_le_self _ _) hn
theorem shl_N {n : Nat} {s : Int32} (k : Nat) (hs : s = nI k) (hk : k < 64) : lN n <<< (s.toInt64 &&& 63) = lN (n * 2 ^ k) := by
  apply un_inj
  rw [un_shl _ k hs hk, un_lN, un_lN]
  simp [Nat.mod_mul_mod]
theorem toInt_N {n : Nat} (h : n < 2 ^ 63) : (lN n).toInt = (n : Int) := pk_lT h
theorem shr_N {n : Nat} {s : Int32} (k : Nat) (hn : n < 2 ^ 63) (hs : s = nI k) (hk : k < 64) : lN n >>> (s.toInt64 &&& 63) = lN (n / 2 ^ k) := by
  apply Int64.toInt_inj.mp
  rw [shr_I _ k hs hk, toInt_N hn, toInt_N (Nat.lt_of_le_of_lt (Nat.div_le_self _ _) hn)]
  simp
theorem and_N {n m : Nat} (k : Nat) (hm : m = 2 ^ k - 1) (hk : k ≤ 64) : lN n &&& lN m = lN (n % 2 ^ k) := by
  subst hm
  apply un_inj
  have h64 : 2 ^ k ≤ 2 ^ 64 := Nat.pow_le_pow_right (by decide) hk
  have hp := Nat.two_pow_pos k
  have hx : n % 2 ^ k < 2 ^ k := Nat.mod_lt _ hp
  rw [un_and, un_lN, un_lN' (n := 2 ^ k - 1) (by omega), Nat.and_two_pow_sub_one_eq_mod, un_lN' (by omega)]
  exact Nat.mod_mod_of_dvd n (Nat.pow_dvd_pow 2 hk)
theorem m32 (n : Nat) : lN n &&& (4294967295 : Int64) = lN (n % 4294967296) := and_N 32 rfl (by decide)
theorem ushr32 {n : Nat} (hn : n < 2 ^ 64) : ((lN n).toUInt64 >>> ((32 : Int32).toInt64.toUInt64 &&& Int64.toUInt64 63)).toInt64 = lN (n / 4294967296) := ushr_N 32 hn rfl (by decide)
theorem shl32 (n : Nat) : lN n <<< ((32 : Int32).toInt64 &&& 63) = lN (n * 4294967296) := shl_N 32 rfl (by decide)
theorem or_N {a b k : Nat} (hb : b < 2 ^ k) (ha : a * 2 ^ k < 2 ^ 64) : lN (a * 2 ^ k) ||| lN b = lN (a * 2 ^ k + b) := by
  apply un_inj
  rcases Nat.eq_zero_or_pos a with h0 | h0
  · subst h0
    rw [un_or, Nat.zero_mul, Nat.zero_add]
    show 0 ||| un (lN b) = _
    rw [Nat.zero_or]
  · have h64 : 2 ^ k ≤ a * 2 ^ k := Nat.le_mul_of_pos_left _ h0
    have hlt : a * 2 ^ k + b < 2 ^ 64 := by
      have hk : k < 64 := (Nat.pow_lt_pow_iff_right (by decide : 1 < 2)).mp (Nat.lt_of_le_of_lt h64 ha)
      have e : 2 ^ 64 = 2 ^ (64 - k) * 2 ^ k := by rw [← Nat.pow_add]; congr 1; omega
      rw [e] at ha ⊢
      have := Nat.lt_of_mul_lt_mul_right ha
      calc a * 2 ^ k + b < a * 2 ^ k + 2 ^ k := by omega
        _ = (a + 1) * 2 ^ k := by rw [Nat.add_mul, Nat.one_mul]
        _ ≤ 2 ^ (64 - k) * 2 ^ k := Nat.mul_le_mul_right _ this
    rw [un_or, un_lN' ha, un_lN' (by omega), un_lN' hlt, Nat.mul_comm, Nat.two_pow_add_eq_or_of_lt hb]
theorem or_lN {a b : Nat} (ha : a < 2 ^ 64) (hb : b < 2 ^ 64) : lN a ||| lN b = lN (a ||| b) := by
  apply un_inj
  rw [un_or, un_lN' ha, un_lN' hb, un_lN' (Nat.or_lt_two_pow ha hb)]
/-! ints and longs of whole numbers with sign -/
def iZ (z : Int) : Int32 := Int32.ofInt z
def lZ (z : Int) : Int64 := Int64.ofInt z
theorem iZ_N (n : Nat) : iZ n = nI n := Int32.ofInt_eq_ofNat
theorem lZ_N (n : Nat) : lZ n = lN n := Int64.ofInt_eq_ofNat
theorem iZ_t {z : Int} (h1 : -2 ^ 31 ≤ z) (h2 : z < 2 ^ 31) : (iZ z).toInt = z := Int32.toInt_ofInt_of_le h1 h2
theorem lZ_t {z : Int} (h1 : -2 ^ 63 ≤ z) (h2 : z < 2 ^ 63) : (lZ z).toInt = z := Int64.toInt_ofInt_of_le h1 h2
theorem iZ_s (x : Int32) : iZ x.toInt = x := Int32.ofInt_toInt x
theorem lZ_s (x : Int64) : lZ x.toInt = x := Int64.ofInt_toInt x
theorem iZ_add (a b : Int) : iZ a + iZ b = iZ (a + b) := (Int32.ofInt_add a b).symm
theorem iZ_sub (a b : Int) : iZ a - iZ b = iZ (a - b) := (Int32.ofInt_sub a b).symm
theorem iZ_mul (a b : Int) : iZ a * iZ b = iZ (a * b) := (Int32.ofInt_mul a b).symm
theorem iZ_neg (a : Int) : - iZ a = iZ (-a) := (Int32.ofInt_neg a).symm
theorem lZ_add (a b : Int) : lZ a + lZ b = lZ (a + b) := (Int64.ofInt_add a b).symm
theorem lZ_sub (a b : Int) : lZ a - lZ b = lZ (a - b) := (Int64.ofInt_sub a b).symm
theorem lZ_mul (a b : Int) : lZ a * lZ b = lZ (a * b) := (Int64.ofInt_mul a b).symm
theorem lZ_neg (a : Int) : - lZ a = lZ (-a) := (Int64.ofInt_neg a).symm
theorem i_lt {x y : Int32} : x < y ↔ x.toInt < y.toInt := Int32.lt_iff_toInt_lt
theorem i_le {x y : Int32} : x ≤ y ↔ x.toInt ≤ y.toInt := Int32.le_iff_toInt_le
theorem i_eq {x y : Int32} : x = y ↔ x.toInt = y.toInt := Int32.toInt_inj.symm
theorem l_lt {x y : Int64} : x < y ↔ x.toInt < y.toInt := Int64.lt_iff_toInt_lt
theorem l_le {x y : Int64} : x ≤ y ↔ x.toInt ≤ y.toInt := Int64.le_iff_toInt_le
theorem l_eq {x y : Int64} : x = y ↔ x.toInt = y.toInt := Int64.toInt_inj.symm
theorem iZ_lt {a b : Int} (h1 : -2 ^ 31 ≤ a) (h2 : a < 2 ^ 31) (h3 : -2 ^ 31 ≤ b) (h4 : b < 2 ^ 31) : iZ a < iZ b ↔ a < b := by rw [i_lt, iZ_t h1 h2, iZ_t h3 h4]
theorem iZ_le {a b : Int} (h1 : -2 ^ 31 ≤ a) (h2 : a < 2 ^ 31) (h3 : -2 ^ 31 ≤ b) (h4 : b < 2 ^ 31) : iZ a ≤ iZ b ↔ a ≤ b := by rw [i_le, iZ_t h1 h2, iZ_t h3 h4]
theorem iZ_eq {a b : Int} (h1 : -2 ^ 31 ≤ a) (h2 : a < 2 ^ 31) (h3 : -2 ^ 31 ≤ b) (h4 : b < 2 ^ 31) : iZ a = iZ b ↔ a = b := by rw [i_eq, iZ_t h1 h2, iZ_t h3 h4]
theorem lZ_lt {a b : Int} (h1 : -2 ^ 63 ≤ a) (h2 : a < 2 ^ 63) (h3 : -2 ^ 63 ≤ b) (h4 : b < 2 ^ 63) : lZ a < lZ b ↔ a < b := by rw [l_lt, lZ_t h1 h2, lZ_t h3 h4]
theorem lZ_eq {a b : Int} (h1 : -2 ^ 63 ≤ a) (h2 : a < 2 ^ 63) (h3 : -2 ^ 63 ≤ b) (h4 : b < 2 ^ 63) : lZ a = lZ b ↔ a = b := by rw [l_eq, lZ_t h1 h2, lZ_t h3 h4]
theorem iZ_l {z : Int} (h1 : -2 ^ 31 ≤ z) (h2 : z < 2 ^ 31) : (iZ z).toInt64 = lZ z := by
  apply Int64.toInt_inj.mp
  rw [Int32.toInt_toInt64, iZ_t h1 h2, lZ_t (by omega) (by omega)]
theorem lZ_i (z : Int) : (lZ z).toInt32 = iZ z := Int64.toInt32_ofInt
theorem un_lZ (z : Int) : ((un (lZ z) : Nat) : Int) = z % 2 ^ 64 := by
  unfold un lZ
  rw [Int64.toBitVec_ofInt, BitVec.toNat_ofInt]
  have := Int.emod_nonneg z (b := 2 ^ 64) (by decide)
  exact Int.toNat_of_nonneg this
/-- the lowest 32 bits, of any long -/
theorem mZ (z : Int) : lZ z &&& (4294967295 : Int64) = lN (z % 4294967296).toNat := by
  apply un_inj
  have h1 : (0 : Int) ≤ z % 4294967296 := Int.emod_nonneg z (by decide)
  have h2 : z % 4294967296 < 4294967296 := Int.emod_lt_of_pos z (by decide)
  rw [← lN_un (lZ z), m32, un_lN' (by omega), un_lN' (by omega)]
  have := un_lZ z
  omega
theorem shrZ {z : Int} (h1 : -2 ^ 63 ≤ z) (h2 : z < 2 ^ 63) : lZ z >>> ((32 : Int32).toInt64 &&& 63) = lZ (z / 4294967296) := by
  apply Int64.toInt_inj.mp
  rw [shr_I _ (s := 32) 32 rfl (by decide), lZ_t h1 h2, lZ_t (by omega) (by omega)]
  rfl
/-- the sign of a long, shifted down -/
theorem sgnZ {z : Int} (h1 : -2 ^ 63 ≤ z) (h2 : z < 2 ^ 63) : ((lZ z).toUInt64 >>> ((63 : Int32).toInt64.toUInt64 &&& Int64.toUInt64 63)).toInt64 = if z < 0 then lN 1 else lN 0 := by
  apply un_inj
  rw [un_ushr _ (s := 63) 63 rfl (by decide)]
  have := un_lZ z
  by_cases h : z < 0
  · rw [if_pos h, un_lN' (by decide)]; omega
  · rw [if_neg h, un_lN' (by decide)]; omega
/-! digits -/
def Bp (k : Nat) : Nat := 2 ^ (32 * k)
theorem Bp_0 : Bp 0 = 1 := rfl
theorem Bp_1 : Bp 1 = 4294967296 := rfl
theorem Bp_succ (k : Nat) : Bp (k + 1) = Bp k * 4294967296 := by
  unfold Bp; rw [Nat.mul_succ, Nat.pow_add]
theorem Bp_add (k j : Nat) : Bp (k + j) = Bp k * Bp j := by
  unfold Bp; rw [Nat.mul_add, Nat.pow_add]
theorem Bp_pos (k : Nat) : 0 < Bp k := Nat.two_pow_pos _
theorem Bp_le {a b : Nat} (h : a ≤ b) : Bp a ≤ Bp b := Nat.pow_le_pow_right (by decide) (by omega)
theorem dg_Bp (v j : Nat) : dg v j = v / Bp j % 4294967296 := rfl
theorem dg_zero (v : Nat) : dg v 0 = v % 4294967296 := by rw [dg_Bp, Bp_0, Nat.div_one]
theorem dg_div (v k j : Nat) : dg (v / Bp k) j = dg v (k + j) := by
  rw [dg_Bp, dg_Bp, Nat.div_div_eq_div_mul, ← Bp_add]
theorem dg_addmul {j k : Nat} (m t : Nat) (h : j < k) : dg (m + Bp k * t) j = dg m j := by
  obtain ⟨i, rfl⟩ : ∃ i, k = j + 1 + i := ⟨k - j - 1, by omega⟩
  rw [dg_Bp, dg_Bp, Bp_add, Bp_succ, Nat.mul_assoc, Nat.mul_assoc, Nat.add_mul_div_left _ _ (Bp_pos j), Nat.add_mul_mod_self_left]
theorem dg_mod {j k : Nat} (v : Nat) (h : j < k) : dg (v % Bp k) j = dg v j := by
  conv => rhs; rw [← Nat.mod_add_div v (Bp k)]
  rw [dg_addmul _ _ h]
/-- a number by its low part, a digit, its high part -/
theorem dg_split (v k : Nat) : v % Bp (k + 1) = v % Bp k + dg v k * Bp k := by
  rw [Bp_succ, Nat.mod_mul, dg_Bp, Nat.mul_comm (Bp k)]
theorem mod_split (v k : Nat) : v = v % Bp k + v / Bp k * Bp k := by
  have := Nat.mod_add_div v (Bp k)
  rw [Nat.mul_comm]
  exact this.symm
def sd (U k x : Nat) : Nat := U % Bp k + x * Bp k + U / Bp (k + 1) * Bp (k + 1)
theorem sd_eq (U k x : Nat) : sd U k x + dg U k * Bp k = U + x * Bp k := by
  have h1 := mod_split U (k + 1)
  have h2 := dg_split U k
  unfold sd
  omega
theorem sd_dg (U k : Nat) {x : Nat} (hx : x < 4294967296) (j : Nat) : dg (sd U k x) j = if j = k then x else dg U j := by
  have e : sd U k x = (U % Bp k + x * Bp k) + Bp (k + 1) * (U / Bp (k + 1)) := by
    unfold sd; rw [Nat.mul_comm (Bp (k + 1))]
  have hm : U % Bp k < Bp k := Nat.mod_lt _ (Bp_pos k)
  by_cases hj : j = k
  · subst hj
    rw [if_pos rfl, e, dg_addmul _ _ (Nat.lt_succ_self _), dg_Bp, Nat.add_mul_div_right _ _ (Bp_pos j), Nat.div_eq_of_lt hm, Nat.zero_add, Nat.mod_eq_of_lt hx]
  · rw [if_neg hj]
    rcases Nat.lt_or_ge j k with h | h
    · rw [e, dg_addmul _ _ (by omega), Nat.mul_comm x, dg_addmul _ _ h, dg_mod _ h]
    · obtain ⟨i, rfl⟩ : ∃ i, j = k + 1 + i := ⟨j - k - 1, by omega⟩
      rw [← dg_div, ← dg_div, e, Nat.add_mul_div_left _ _ (Bp_pos _), Nat.div_eq_of_lt, Nat.zero_add]
      rw [Bp_succ]
      calc U % Bp k + x * Bp k < Bp k + x * Bp k := by omega
        _ = (x + 1) * Bp k := by rw [Nat.add_mul, Nat.one_mul, Nat.add_comm]
        _ ≤ 4294967296 * Bp k := Nat.mul_le_mul_right _ hx
        _ = Bp k * 4294967296 := Nat.mul_comm _ _
theorem sd_lt {U k n x : Nat} (hU : U < Bp n) (hk : k < n) (hx : x < 4294967296) : sd U k x < Bp n := by
  obtain ⟨i, rfl⟩ : ∃ i, n = k + 1 + i := ⟨n - k - 1, by omega⟩
  have h1 : U / Bp (k + 1) < Bp i := by
    rw [Nat.div_lt_iff_lt_mul (Bp_pos _), Nat.mul_comm, ← Bp_add]
    exact hU
  have hm : U % Bp k < Bp k := Nat.mod_lt _ (Bp_pos k)
  have h2 : (x + 1) * Bp k ≤ Bp (k + 1) := by
    rw [Bp_succ, Nat.mul_comm (Bp k)]
    exact Nat.mul_le_mul_right _ hx
  have h3 : (U / Bp (k + 1) + 1) * Bp (k + 1) ≤ Bp i * Bp (k + 1) := Nat.mul_le_mul_right _ h1
  rw [Nat.add_mul, Nat.one_mul] at h2 h3
  rw [Bp_add, Nat.mul_comm (Bp (k + 1)) (Bp i)]
  unfold sd
  omega
theorem sd_dgs (U k : Nat) {x : Nat} (hx : x < 4294967296) : vp_updL (dgs U) k (lN x) = dgs (sd U k x) := by
  funext j
  show vp_updL (dgs U) k (lN x) j = lN (dg (sd U k x) j)
  rw [sd_dg U k hx]
  unfold vp_updL
  by_cases h : j = k
  · rw [if_pos h, if_pos h]
  · rw [if_neg h, if_neg h]; rfl
theorem dgs_at (v j : Nat) : dgs v j = lN (dg v j) := rfl
theorem mod_lt_Bp (v k : Nat) : v % Bp k < Bp k := Nat.mod_lt _ (Bp_pos k)
theorem Bp_mod {v k : Nat} (h : v < Bp k) : v % Bp k = v := Nat.mod_eq_of_lt h
theorem nd_Bp {v n : Nat} : nd v ≤ n ↔ v < Bp n := nd_le
theorem nd_self (v : Nat) : v < Bp (nd v) := nd_lt v
theorem div_Bp_lt {v k : Nat} (h : v < Bp k) : v / Bp k = 0 := Nat.div_eq_of_lt h
