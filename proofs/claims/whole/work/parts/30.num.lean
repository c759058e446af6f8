/-! numbers: digits of base 2^32, lengths -/
def dg (v j : Nat) : Nat := v / 2 ^ (32 * j) % 4294967296
def dgs (v : Nat) : Nat → Int64 := fun j => lN (dg v j)
def bln (v : Nat) : Nat := if v = 0 then 0 else Nat.log2 v + 1
def nd (v : Nat) : Nat := (bln v + 31) / 32
theorem bln_le {v k : Nat} : bln v ≤ k ↔ v < 2 ^ k := by
  unfold bln
  by_cases h : v = 0
  · subst h
    simp [Nat.two_pow_pos]
  · rw [if_neg h]
    exact Nat.log2_lt h
theorem nd_le {v n : Nat} : nd v ≤ n ↔ v < 2 ^ (32 * n) := by
  rw [← bln_le]
  unfold nd
  omega
theorem bln_0 : bln 0 = 0 := rfl
theorem nd_0 : nd 0 = 0 := rfl
theorem bln_lt {v : Nat} : v < 2 ^ bln v := bln_le.mp (Nat.le_refl _)
theorem nd_lt (v : Nat) : v < 2 ^ (32 * nd v) := nd_le.mp (Nat.le_refl _)
theorem bln_ge {v : Nat} (h : 0 < v) : 2 ^ (bln v - 1) ≤ v := by
  have : ¬ bln v ≤ bln v - 1 := by
    have : bln v ≠ 0 := by
      unfold bln
      rw [if_neg (by omega)]
      omega
    omega
  rw [bln_le] at this
  omega
theorem bln_eq {v k : Nat} (h1 : v < 2 ^ k) (h2 : 2 ^ (k - 1) ≤ v) (hk : 0 < k) : bln v = k := by
  have a := bln_le.mpr h1
  have b : ¬ bln v ≤ k - 1 := by rw [bln_le]; omega
  omega
theorem bln_pos {v : Nat} : 0 < bln v ↔ 0 < v := by
  unfold bln
  by_cases h : v = 0
  · subst h; simp
  · rw [if_neg h]; omega
theorem nd_pos {v : Nat} : 0 < nd v ↔ 0 < v := by
  have := bln_pos (v := v)
  unfold nd
  omega
theorem dg_lt (v j : Nat) : dg v j < 4294967296 := Nat.mod_lt _ (by decide)
theorem dg_z {v j n : Nat} (h : v < 2 ^ (32 * n)) (hj : n ≤ j) : dg v j = 0 := by
  unfold dg
  rw [Nat.div_eq_of_lt]
  exact Nat.lt_of_lt_of_le h (Nat.pow_le_pow_right (by decide) (by omega))
theorem dg_0 (j : Nat) : dg 0 j = 0 := by simp [dg]
theorem dgs_0 : dgs 0 = fun _ => 0 := by
  funext j
  simp only [dgs, dg_0]
  rfl
theorem dg_top {v n : Nat} (h : v < 2 ^ (32 * (n + 1))) : dg v n = v / 2 ^ (32 * n) := by
  unfold dg
  apply Nat.mod_eq_of_lt
  rw [Nat.div_lt_iff_lt_mul (Nat.two_pow_pos _)]
  have e : 4294967296 * 2 ^ (32 * n) = 2 ^ (32 * (n + 1)) := by
    rw [Nat.mul_succ, Nat.pow_add]
    omega
  omega
theorem dg_top0 {v n : Nat} (h : v < 2 ^ (32 * (n + 1))) : dg v n = 0 ↔ v < 2 ^ (32 * n) := by
  rw [dg_top h, Nat.div_eq_zero_iff]
  have := Nat.two_pow_pos (32 * n)
  omega
theorem nI_32 {n : Nat} (h : n < 2 ^ 31) : (nI n).toNatClampNeg = n := nI_clamp h
theorem lN_0 : lN 0 = 0 := rfl
theorem lN_ne0 {n : Nat} (h : n < 4294967296) : lN n = 0 ↔ n = 0 := by
  have := pk_lEQ (a := n) (b := 0) (by omega) (by decide)
  exact this
/-! states -/
theorem gal_sar (σ : St) (i : Nat) (f : Nat → Int64) (j : Nat) : gal (sar σ i f) j = if j = i then f else gal σ j := rfl
theorem gfi_sar (σ : St) (i : Nat) (f : Nat → Int64) : gfi (sar σ i f) = gfi σ := rfl
theorem gfl_sar (σ : St) (i : Nat) (f : Nat → Int64) : gfl (sar σ i f) = gfl σ := rfl
theorem gai_sar (σ : St) (i : Nat) (f : Nat → Int64) : gai (sar σ i f) = gai σ := rfl
theorem gal_sfi (σ : St) (i k : Nat) (v : Int32) : gal (sfi σ i k v) = gal σ := rfl
theorem gfl_sfi (σ : St) (i k : Nat) (v : Int32) : gfl (sfi σ i k v) = gfl σ := rfl
theorem gai_sfi (σ : St) (i k : Nat) (v : Int32) : gai (sfi σ i k v) = gai σ := rfl
theorem gfi_sfi (σ : St) (i k : Nat) (v : Int32) (a b : Nat) : gfi (sfi σ i k v) a b = if a = i ∧ b = k then v else gfi σ a b := rfl
theorem sar_sar (σ : St) (i : Nat) (f g : Nat → Int64) : sar (sar σ i f) i g = sar σ i g := by
  unfold sar
  congr 4
  funext a
  by_cases h : a = i <;> simp [h]
theorem sfi_sfi (σ : St) (i k : Nat) (v w : Int32) : sfi (sfi σ i k v) i k w = sfi σ i k w := by
  unfold sfi
  congr 1
  funext a b
  by_cases h : a = i ∧ b = k <;> simp [h]
theorem sfi_sar (σ : St) (i k a : Nat) (v : Int32) (f : Nat → Int64) : sar (sfi σ i k v) a f = sfi (sar σ a f) i k v := rfl
/-- a Natural's cells, as they are -/
def rN (σ : St) (i : Nat) (f : Nat → Int64) (n : Int32) : St := sfi (sar σ (i + 16) f) i 1 n
theorem rN_f (σ : St) (i : Nat) (f : Nat → Int64) (n : Int32) : gal (rN σ i f n) (i + 16) = f := by
  simp [rN, gal_sfi, gal_sar]
theorem rN_n (σ : St) (i : Nat) (f : Nat → Int64) (n : Int32) : gfi (rN σ i f n) i 1 = n := by
  simp [rN, gfi_sfi]
theorem rN_sal (σ : St) (i : Nat) (f : Nat → Int64) (n : Int32) (j : Nat) (x : Int64) : sal (rN σ i f n) (i + 16) j x = rN σ i (vp_updL f j x) n := by
  unfold sal
  rw [rN_f]
  unfold rN
  rw [sfi_sar, sar_sar]
theorem rN_sfi (σ : St) (i : Nat) (f : Nat → Int64) (n n2 : Int32) : sfi (rN σ i f n) i 1 n2 = rN σ i f n2 := sfi_sfi _ _ _ _ _
theorem rN_rN (σ : St) (i : Nat) (f g : Nat → Int64) (n n2 : Int32) : rN (rN σ i f n) i g n2 = rN σ i g n2 := by
  unfold rN
  rw [sfi_sar, sar_sar, sfi_sfi]
theorem rN_self (σ : St) (i : Nat) : rN σ i (gal σ (i + 16)) (gfi σ i 1) = σ := by
  obtain ⟨a, b, c, d, e⟩ := σ
  unfold rN sfi sar gal gfi
  simp only
  congr 1
  · funext x y
    by_cases h : x = i ∧ y = 1
    · obtain ⟨rfl, rfl⟩ := h; simp
    · simp [h]
  · congr 3
    funext x
    by_cases h : x = i + 16
    · subst h; simp
    · simp [h]
/-- Natural i holds v -/
def Nt (σ : St) (i v : Nat) : Prop := gal σ (i + 16) = dgs v ∧ gfi σ i 1 = nI (nd v) ∧ v < 2 ^ 640
def sN (σ : St) (i v : Nat) : St := rN σ i (dgs v) (nI (nd v))
theorem Nt.self {σ : St} {i v : Nat} (h : Nt σ i v) : sN σ i v = σ := by
  unfold sN
  rw [← h.1, ← h.2.1, rN_self]
theorem sN_Nt {σ : St} {i v : Nat} (h : v < 2 ^ 640) : Nt (sN σ i v) i v := ⟨rN_f _ _ _ _, rN_n _ _ _ _, h⟩
theorem sN_sN (σ : St) (i v w : Nat) : sN (sN σ i v) i w = sN σ i w := rN_rN _ _ _ _ _ _
theorem sN_ne {σ : St} {i k v w : Nat} (h : Nt σ k w) (hne : k ≠ i) : Nt (sN σ i v) k w := by
  refine ⟨?_, ?_, h.2.2⟩
  · rw [← h.1]
    unfold sN rN
    rw [gal_sfi, gal_sar, if_neg (by omega)]
  · rw [← h.2.1]
    unfold sN rN
    rw [gfi_sfi, if_neg (by omega), gfi_sar]
def NI (i : Nat) : Prop := 8 ≤ i ∧ i < 24
theorem NI.k {i : Nat} (h : NI i) : i < 24 ∧ kls i = 2 := ⟨h.2, by unfold kls; rw [if_pos h.1]⟩
theorem NI.s {i : Nat} (h : NI i) : i < 24 ∧ kls i = 2 ∧ ft 2 1 = 0 := ⟨h.2, by unfold kls; rw [if_pos h.1], rfl⟩
theorem NI.f {i : Nat} (h : NI i) : fr i 0 = i + 16 := by unfold fr; rw [if_pos h.1]
theorem NI.L {i : Nat} (h : NI i) : isL (fr i 0) := by
  rw [h.f]
  have h1 := h.1
  have h2 := h.2
  unfold isL
  omega
theorem NI.a {i : Nat} (h : NI i) : ale (fr i 0) = 20 := by
  rw [h.f]
  unfold ale
  have h2 := h.2
  rw [if_pos (by omega)]
theorem NI.w {i j : Nat} (h : NI i) (hj : j < 20) : isL (fr i 0) ∧ vp_in (nI j) (ale (fr i 0)) := ⟨h.L, by rw [h.a]; exact vp_in_nI hj (by decide)⟩
