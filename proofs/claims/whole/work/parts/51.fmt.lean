/-! Format: how doubles and floats lie in their bits -/
def fb (x : Nat) : Nat := if x = 46 then 52 else 23
def fe (x : Nat) : Nat := if x = 46 then 2047 else 255
def fz (x : Nat) : Nat := if x = 46 then 1074 else 149
def fs (x : Nat) : Nat := if x = 46 then 63 else 31
def fn (x : Nat) : Nat := if x = 46 then 9221120237041090560 else 2143289344
def FO (x : Nat) : Prop := x = 46 ∨ x = 47
theorem FO.b0 {x : Nat} (h : FO x) : efi x 0 = nI (fb x) := by rcases h with rfl | rfl <;> rfl
theorem FO.b1 {x : Nat} (h : FO x) : efi x 1 = nI (fe x) := by rcases h with rfl | rfl <;> rfl
theorem FO.b2 {x : Nat} (h : FO x) : efi x 2 = iZ (-(fz x : Int)) := by rcases h with rfl | rfl <;> rfl
theorem FO.no {x : Nat} (h : FO x) : efl x 3 = lN (fn x) := by rcases h with rfl | rfl <;> rfl
theorem FO.inf {x : Nat} (h : FO x) : efl x 4 = lN (fe x * 2 ^ fb x) := by rcases h with rfl | rfl <;> decide
theorem FO.sgn {x : Nat} (h : FO x) : efl x 5 = lN (2 ^ fs x) := by rcases h with rfl | rfl <;> decide
theorem FO.s {x : Nat} (h : FO x) : fe x + 1 = 2 ^ (fs x - fb x) ∧ fb x < fs x ∧ fs x ≤ 63 ∧ fb x + 1 < fs x ∧ fz x < 2000 ∧ 0 < fb x ∧ fb x ≤ 52 ∧ 2 ≤ fe x ∧ fe x ≤ 2047 ∧ 0 < fz x := by
  rcases h with rfl | rfl <;> decide
/-- infinite is below the sign -/
theorem FO.i {x : Nat} (h : FO x) : fe x * 2 ^ fb x + 2 ^ fb x = 2 ^ fs x := by
  obtain ⟨h1, h2, _⟩ := h.s
  rw [← Nat.succ_mul, Nat.succ_eq_add_one, h1, ← Nat.pow_add]
  congr 1
  omega
theorem FO.l {x : Nat} (h : FO x) : fe x * 2 ^ fb x < 2 ^ 63 := by
  have h1 := h.i
  obtain ⟨_, _, h2, _⟩ := h.s
  have : 2 ^ fs x ≤ 2 ^ 63 := Nat.pow_le_pow_right (by decide) h2
  have := Nat.two_pow_pos (fb x)
  omega
def fsz (x n : Nat) : Nat := n % 2 ^ fs x
def fsg (x n : Nat) : Nat := n / 2 ^ fs x % 2
def fex (x n : Nat) : Nat := n % 2 ^ fs x / 2 ^ fb x
def fsi (x n : Nat) : Nat := if fex x n = 0 then n % 2 ^ fb x else 2 ^ fb x + n % 2 ^ fb x
def fsc (x n : Nat) : Int := ((max (fex x n) 1 - 1 : Nat) : Int) - fz x
theorem fsz_lt (x n : Nat) : fsz x n < 2 ^ fs x := Nat.mod_lt _ (Nat.two_pow_pos _)
theorem fsz_63 {x n : Nat} (h : FO x) : fsz x n < 2 ^ 63 := by
  obtain ⟨_, _, h2, _⟩ := h.s
  exact Nat.lt_of_lt_of_le (fsz_lt x n) (Nat.pow_le_pow_right (by decide) h2)
theorem and_bit (n k : Nat) : n &&& 2 ^ k = if n / 2 ^ k % 2 = 1 then 2 ^ k else 0 := by
  apply Nat.eq_of_testBit_eq
  intro i
  rw [Nat.testBit_and, Nat.testBit_two_pow]
  by_cases e : k = i
  · subst e
    have : Nat.testBit n k = decide (n / 2 ^ k % 2 = 1) := by rw [Nat.testBit_eq_decide_div_mod_eq]
    rw [this]
    by_cases c : n / 2 ^ k % 2 = 1
    · rw [if_pos c, Nat.testBit_two_pow_self]; simp [c]
    · rw [if_neg c, Nat.zero_testBit]; simp [c]
  · by_cases c : n / 2 ^ k % 2 = 1
    · rw [if_pos c, Nat.testBit_two_pow]; simp [e]
    · rw [if_neg c, Nat.zero_testBit]; simp [e]
section
variable {d x n : Nat} {S : St}
theorem f_size (h : FO x) (hn : n < 2 ^ 64) : Er (d + 1) 141 (0, ent 141 [.ref x, .long (lN n)], [], S) (.inl (some (.long (lN (fsz x n)))), S, 0) := by
  have t := b141_0 (d := d) (x0 := x) (x1 := lN n) (σ := S) h
  have e : efl x 5 - 1 = lN (2 ^ fs x - 1) := by
    rw [h.sgn]
    exact lN_sub (b := 1) (Nat.two_pow_pos _)
  rw [e, and_N (fs x) rfl (by have := h.s; omega)] at t
  exact t
theorem f_fin (h : FO x) (hn : n < 2 ^ 64) : Er (d + 2) 140 (0, ent 140 [.ref x, .long (lN n)], [], S) (.inl (some (.int (if fsz x n < fe x * 2 ^ fb x then 1 else 0))), S, 0) := by
  refine b140_0 h (f_size h hn) (b140_5 h (fun z => ?_) (fun z => ?_))
  · rw [h.inf, pk_lLT (fsz_63 h) h.l] at z
    rw [if_neg z]
    exact b140_17 (b140_18 rfl)
  · rw [h.inf, pk_lLT (fsz_63 h) h.l] at z
    rw [if_pos z]
    exact b140_13 (b140_18 rfl)
theorem f_nan (h : FO x) (hn : n < 2 ^ 64) : Er (d + 2) 147 (0, ent 147 [.ref x, .long (lN n)], [], S) (.inl (some (.int (if fe x * 2 ^ fb x < fsz x n then 1 else 0))), S, 0) := by
  refine b147_0 h (f_size h hn) (b147_5 h (fun z => ?_) (fun z => ?_))
  · rw [h.inf, pk_lLT h.l (fsz_63 h)] at z
    rw [if_neg z]
    exact b147_17 (b147_18 rfl)
  · rw [h.inf, pk_lLT h.l (fsz_63 h)] at z
    rw [if_pos z]
    exact b147_13 (b147_18 rfl)
theorem fex_lt (h : FO x) : fex x n ≤ fe x := by
  obtain ⟨h1, h2, _⟩ := h.s
  have : fex x n < 2 ^ (fs x - fb x) := by
    unfold fex
    rw [Nat.div_lt_iff_lt_mul (Nat.two_pow_pos _), ← Nat.pow_add, show fs x - fb x + fb x = fs x by omega]
    exact Nat.mod_lt _ (Nat.two_pow_pos _)
  omega
theorem f_exp (h : FO x) (hn : n < 2 ^ 64) : Er (d + 2) 143 (0, ent 143 [.ref x, .long (lN n)], [], S) (.inl (some (.int (nI (fex x n)))), S, 0) := by
  obtain ⟨h1, h2, h3, h4, h5, h6, h7, _⟩ := h.s
  refine b143_0 h (f_size h hn) ?_
  have t := b143_5 (d := d + 1) (x0 := x) (x1 := lN n) (s0 := lN (fsz x n)) (σ := S) h
  rw [ushr_N (fb x) (Nat.lt_trans (fsz_63 h) (by decide)) h.b0 (by omega), lN_i] at t
  exact t
theorem f_sig (h : FO x) (hn : n < 2 ^ 64) : Er (d + 3) 142 (0, ent 142 [.ref x, .long (lN n)], [], S) (.inl (some (.long (lN (fsi x n)))), S, 0) := by
  obtain ⟨h1, h2, h3, h4, h5, h6, h7, _⟩ := h.s
  have e1 : (1 : Int64) <<< ((efi x 0).toInt64 &&& 63) = lN (2 ^ fb x) := by
    rw [show (1 : Int64) = lN 1 from rfl, shl_N (fb x) h.b0 (by omega), Nat.one_mul]
  have e2 : lN n &&& (lN (2 ^ fb x) - 1) = lN (n % 2 ^ fb x) := by
    rw [show lN (2 ^ fb x) - 1 = lN (2 ^ fb x - 1) from lN_sub (b := 1) (Nat.two_pow_pos _), and_N (fb x) rfl (by omega)]
  have hex := fex_lt (n := n) h
  have hl : (fe x : Nat) ≤ 2047 := by have := h.s; omega
  refine b142_0 h (f_exp h hn) ?_
  rw [e1, e2]
  unfold fsi
  refine b142_19 (fun z => ?_) (fun z => ?_)
  · have : ¬ fex x n = 0 := fun c => z (by rw [c]; rfl)
    rw [if_neg this, ← lN_add]
    exact b142_27 b142_31
  · have : fex x n = 0 := (nI_eq (b := 0) (by omega) (by decide)).mp z
    rw [if_pos this]
    exact b142_22 b142_31
theorem f_scale (h : FO x) (hn : n < 2 ^ 64) : Er (d + 3) 146 (0, ent 146 [.ref x, .long (lN n)], [], S) (.inl (some (.int (iZ (fsc x n)))), S, 0) := by
  have hex := fex_lt (n := n) h
  have hl : (fe x : Nat) ≤ 2047 := by have := h.s; omega
  refine b146_0 h (f_exp h hn) ?_
  have t := b146_5 (d := d + 2) (x0 := x) (x1 := lN n) (s0 := nI (fex x n)) (σ := S) h
  have e : (if nI (fex x n) < (1 : Int32) then (1 : Int32) else nI (fex x n)) - 1 + efi x 2 = iZ (fsc x n) := by
    rw [show (1 : Int32) = nI 1 from rfl, imax (by omega) (by decide), pk_sub (by omega), h.b2, ← iZ_N, iZ_add]
    unfold fsc
    rfl
  rw [e] at t
  exact t
theorem f_hasSign (h : FO x) (hn : n < 2 ^ 64) : Er (d + 1) 145 (0, ent 145 [.ref x, .long (lN n)], [], S) (.inl (some (.int (nI (fsg x n)))), S, 0) := by
  obtain ⟨h1, h2, h3, _⟩ := h.s
  have p64 : 2 ^ fs x < 2 ^ 64 := Nat.pow_lt_pow_right (by decide) (by omega)
  have e : lN n &&& efl x 5 = lN (if n / 2 ^ fs x % 2 = 1 then 2 ^ fs x else 0) := by
    apply un_inj
    rw [un_and, h.sgn, un_lN' hn, un_lN' p64, and_bit, un_lN']
    split
    · exact p64
    · decide
  have hp := Nat.two_pow_pos (fs x)
  unfold fsg
  refine b145_0 h (fun z => ?_) (fun z => ?_)
  · rw [e] at z
    by_cases c : n / 2 ^ fs x % 2 = 1
    · rw [if_pos c] at z
      have := (lN_inj (b := 0) p64 (by decide)).mp z
      omega
    · rw [show n / 2 ^ fs x % 2 = 0 by omega]
      exact b145_15 (b145_16 rfl)
  · rw [e] at z
    by_cases c : n / 2 ^ fs x % 2 = 1
    · rw [c]
      exact b145_11 (b145_16 rfl)
    · rw [if_neg c] at z
      exact absurd rfl z
theorem f_side (h : FO x) (hn : n < 2 ^ 64) : Er (d + 2) 144 (0, ent 144 [.ref x, .long (lN n)], [], S) (.inl (some (.int (if fsg x n = 1 then -1 else 1))), S, 0) := by
  have h2 : fsg x n < 2 := Nat.mod_lt _ (by decide)
  refine b144_0 h (f_hasSign h hn) (b144_5 (fun z => ?_) (fun z => ?_))
  · have : fsg x n = 0 := (nI_eq (b := 0) (by omega) (by decide)).mp z
    rw [if_neg (by omega)]
    exact b144_12 b144_13
  · have : ¬ fsg x n = 0 := fun c => z (by rw [c]; rfl)
    rw [if_pos (by omega)]
    exact b144_8 b144_13
theorem f_signed {b : Bool} (h : FO x) (hn : n < 2 ^ fs x) : Er (d + 1) 149 (0, ent 149 [.ref x, .int (if b then 1 else 0), .long (lN n)], [], S) (.inl (some (.long (lN (n + (if b then 2 ^ fs x else 0))))), S, 0) := by
  obtain ⟨h1, h2, h3, _⟩ := h.s
  have p64 : 2 ^ fs x < 2 ^ 64 := Nat.pow_lt_pow_right (by decide) (by omega)
  cases b with
  | false => exact b149_0 (fun _ => b149_13 b149_14) (fun z => absurd rfl z)
  | true =>
    refine b149_0 (fun z => absurd z (by decide)) (fun _ => b149_4 h ?_)
    have e : lN n ||| efl x 5 = lN (n + 2 ^ fs x) := by
      rw [h.sgn, Int64.or_comm]
      have := or_N (a := 1) (k := fs x) hn (by rw [Nat.one_mul]; exact p64)
      rw [Nat.one_mul, Nat.add_comm] at this
      exact this
    rw [e]
    exact b149_14
def bey (x : Nat) (dir : Nat) (neg : Bool) : Nat := if dir = 3 ∨ dir = (if neg then 1 else 2) then fe x * 2 ^ fb x - 1 else fe x * 2 ^ fb x
theorem f_beyond {b : Bool} {dir : Nat} (h : FO x) (hd : dir < 4) : Er (d + 1) 150 (0, ent 150 [.ref x, .int (if b then 1 else 0), .int (nI dir)], [], S) (.inl (some (.long (lN (bey x dir b)))), S, 0) := by
  have hl := h.l
  have hp : 0 < fe x * 2 ^ fb x := Nat.mul_pos (by have := h.s; omega) (Nat.two_pow_pos _)
  have e1 : efl x 4 - 1 = lN (fe x * 2 ^ fb x - 1) := by
    rw [h.inf]
    exact lN_sub (b := 1) hp
  have yes : ∀ {c : Rs}, (c = (.inl (some (.long (lN (fe x * 2 ^ fb x - 1)))), S, 0)) → Er (d + 1) 150 (18, [some (.ref x), some (.int (if b then 1 else 0)), some (.int (nI dir)), none], [], S) c := by
    intro c hc
    subst hc
    refine b150_18 (b150_23 (fun z => absurd z (by decide)) (fun _ => b150_28 h ?_))
    rw [e1]
    exact b150_41
  have no : ∀ {c : Rs}, (c = (.inl (some (.long (lN (fe x * 2 ^ fb x)))), S, 0)) → Er (d + 1) 150 (22, [some (.ref x), some (.int (if b then 1 else 0)), some (.int (nI dir)), none], [], S) c := by
    intro c hc
    subst hc
    refine b150_22 (b150_23 (fun _ => b150_37 h ?_) (fun z => absurd rfl z))
    rw [h.inf]
    exact b150_41
  have e3 : nI dir = 3 ↔ dir = 3 := nI_eq (b := 3) (by omega) (by decide)
  unfold bey
  refine b150_0 (fun z => ?_) (fun z => ?_)
  · rw [e3] at z
    exact yes (by rw [if_pos (Or.inl z)])
  · rw [e3] at z
    cases b with
    | false =>
      have e2 : nI dir = 2 ↔ dir = 2 := nI_eq (b := 2) (by omega) (by decide)
      refine b150_5 (fun _ => b150_14 (b150_15 (fun w => ?_) (fun w => ?_))) (fun w => absurd rfl w)
      · rw [e2] at w
        exact no (by rw [if_neg (by simp [z, w])])
      · rw [e2] at w
        exact yes (by rw [if_pos (by simp [w])])
    | true =>
      have e2 : nI dir = 1 ↔ dir = 1 := nI_eq (b := 1) (by omega) (by decide)
      refine b150_5 (fun w => absurd w (by decide)) (fun _ => b150_10 (b150_15 (fun w => ?_) (fun w => ?_)))
      · rw [e2] at w
        exact no (by rw [if_neg (by simp [z, w])])
      · rw [e2] at w
        exact yes (by rw [if_pos (by simp [w])])
end
