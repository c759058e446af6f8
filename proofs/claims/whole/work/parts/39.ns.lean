/-! all Naturals at once -/
def up (nv : Nat → Nat) (i v : Nat) : Nat → Nat := fun j => if j = i then v else nv j
theorem up_s (nv : Nat → Nat) (i v : Nat) : up nv i v i = v := if_pos rfl
theorem up_n {nv : Nat → Nat} {i v j : Nat} (h : j ≠ i) : up nv i v j = nv j := if_neg h
theorem up_up (nv : Nat → Nat) (i v w : Nat) : up (up nv i v) i w = up nv i w := by
  funext j
  unfold up
  by_cases h : j = i
  · rw [if_pos h, if_pos h]
  · rw [if_neg h, if_neg h, if_neg h]
theorem up_self (nv : Nat → Nat) (i : Nat) : up nv i (nv i) = nv := by
  funext j
  unfold up
  by_cases h : j = i
  · rw [if_pos h, h]
  · rw [if_neg h]
def NS (σ : St) (nv : Nat → Nat) : St := (fun a b => if (8 ≤ a ∧ a < 24) ∧ b = 1 then nI (nd (nv a)) else σ.1 a b, σ.2.1, σ.2.2.1, fun a => if 24 ≤ a ∧ a < 40 then dgs (nv (a - 16)) else σ.2.2.2.1 a, σ.2.2.2.2)
def Bd (nv : Nat → Nat) : Prop := ∀ i, nv i < 2 ^ 640
theorem Bd_up {nv : Nat → Nat} {i v : Nat} (h : Bd nv) (hv : v < 2 ^ 640) : Bd (up nv i v) := by
  intro j
  unfold up
  by_cases g : j = i
  · rw [if_pos g]; exact hv
  · rw [if_neg g]; exact h j
theorem NS_Nt {σ : St} {nv : Nat → Nat} {i : Nat} (hi : NI i) (hb : Bd nv) : Nt (NS σ nv) i (nv i) := by
  have h1 := hi.1
  have h2 := hi.2
  refine ⟨?_, ?_, hb i⟩
  · show (if 24 ≤ i + 16 ∧ i + 16 < 40 then dgs (nv (i + 16 - 16)) else _) = _
    rw [if_pos (by omega), Nat.add_sub_cancel]
  · show (if (8 ≤ i ∧ i < 24) ∧ 1 = 1 then nI (nd (nv i)) else _) = _
    rw [if_pos (by omega)]
theorem NS_sN {σ : St} {nv : Nat → Nat} {i v : Nat} (hi : NI i) : sN (NS σ nv) i v = NS σ (up nv i v) := by
  have h1 := hi.1
  have h2 := hi.2
  unfold sN rN NS sfi sar up
  simp only
  congr 1
  · funext a b
    by_cases g : a = i ∧ b = 1
    · obtain ⟨rfl, rfl⟩ := g
      rw [if_pos ⟨rfl, rfl⟩, if_pos (by omega), if_pos rfl]
    · rw [if_neg g]
      by_cases g2 : (8 ≤ a ∧ a < 24) ∧ b = 1
      · rw [if_pos g2, if_pos g2, if_neg (by omega)]
      · rw [if_neg g2, if_neg g2]
  · congr 3
    funext a
    by_cases g : a = i + 16
    · subst g
      rw [if_pos rfl, if_pos (by omega), Nat.add_sub_cancel, if_pos rfl]
    · rw [if_neg g]
      by_cases g2 : 24 ≤ a ∧ a < 40
      · rw [if_pos g2, if_pos g2, if_neg (by omega)]
      · rw [if_neg g2, if_neg g2]
theorem NS_fi {σ : St} {nv : Nat → Nat} {i k : Nat} (h : i < 8) : gfi (NS σ nv) i k = gfi σ i k := by
  show (if (8 ≤ i ∧ i < 24) ∧ k = 1 then nI (nd (nv i)) else _) = _
  rw [if_neg (by omega)]
  rfl
theorem NS_al {σ : St} {nv : Nat → Nat} {a : Nat} (h : 40 ≤ a) : gal (NS σ nv) a = gal σ a := by
  show (if 24 ≤ a ∧ a < 40 then dgs (nv (a - 16)) else _) = _
  rw [if_neg (by omega)]
  rfl
theorem NS_fl (σ : St) (nv : Nat → Nat) : gfl (NS σ nv) = gfl σ := rfl
theorem NS_ai (σ : St) (nv : Nat → Nat) : gai (NS σ nv) = gai σ := rfl
theorem NS_sl (σ : St) (nv : Nat → Nat) : gsl (NS σ nv) = gsl σ := rfl
theorem NS_sfi {σ : St} {nv : Nat → Nat} {i k : Nat} {v : Int32} (h : i < 8) : sfi (NS σ nv) i k v = NS (sfi σ i k v) nv := by
  unfold NS sfi
  simp only
  congr 1
  funext a b
  by_cases g : a = i ∧ b = k
  · rw [if_pos g, if_neg (by omega), if_pos g]
  · rw [if_neg g]
    by_cases g2 : (8 ≤ a ∧ a < 24) ∧ b = 1
    · rw [if_pos g2, if_pos g2]
    · rw [if_neg g2, if_neg g2, if_neg g]
theorem NS_sfl (σ : St) (nv : Nat → Nat) (i k : Nat) (v : Int64) : sfl (NS σ nv) i k v = NS (sfl σ i k v) nv := rfl
theorem NS_sai (σ : St) (nv : Nat → Nat) (i j : Nat) (v : Int32) : sai (NS σ nv) i j v = NS (sai σ i j v) nv := rfl
theorem NS_sar {σ : St} {nv : Nat → Nat} {a : Nat} {f : Nat → Int64} (h : 40 ≤ a) : sar (NS σ nv) a f = NS (sar σ a f) nv := by
  unfold NS sar
  simp only
  congr 4
  funext x
  by_cases g : x = a
  · rw [if_pos g, if_neg (by omega), if_pos g]
  · rw [if_neg g]
    by_cases g2 : 24 ≤ x ∧ x < 40
    · rw [if_pos g2, if_pos g2]
    · rw [if_neg g2, if_neg g2, if_neg g]
theorem NS_self {σ : St} {nv : Nat → Nat} (h : ∀ i, NI i → Nt σ i (nv i)) : NS σ nv = σ := by
  obtain ⟨s1, s2, s3, s4, s5⟩ := σ
  unfold NS
  simp only
  congr 1
  · funext a b
    by_cases g : (8 ≤ a ∧ a < 24) ∧ b = 1
    · rw [if_pos g, g.2]
      exact (h a g.1).2.1.symm
    · rw [if_neg g]
  · congr 3
    funext x
    by_cases g : 24 ≤ x ∧ x < 40
    · rw [if_pos g]
      have := (h (x - 16) ⟨by omega, by omega⟩).1
      rw [Nat.sub_add_cancel (by omega)] at this
      exact this.symm
    · rw [if_neg g]
theorem ni (i : Nat) (h : Nat.ble 8 i && Nat.blt i 24 = true) : NI i := by
  simp only [Bool.and_eq_true, Nat.ble_eq, Nat.blt_eq] at h
  exact ⟨h.1, of_decide_eq_true h.2⟩
section
variable {d : Nat} {σ : St} {nv : Nat → Nat}
theorem n_takeJ {i n : Nat} (hi : NI i) (hb : Bd nv) (hn : n < 2 ^ 64) : Er (d + 2) 11 (0, ent 11 [.ref i, .long (lN n)], [], NS σ nv) (.inl none, NS σ (up nv i n), 0) := by
  rw [← NS_sN hi]
  exact c_takeJ hi (NS_Nt hi hb) hn
theorem n_takeN {i k : Nat} (hi : NI i) (hk : NI k) (hb : Bd nv) : Er (d + 1) 19 (0, ent 19 [.ref i, .ref k], [], NS σ nv) (.inl none, NS σ (up nv i (nv k)), 0) := by
  rw [← NS_sN hi]
  exact c_takeN hi hk (NS_Nt hi hb) (NS_Nt hk hb)
theorem n_isZero {i : Nat} (hi : NI i) (hb : Bd nv) : Er (d + 1) 17 (0, ent 17 [.ref i], [], NS σ nv) (.inl (some (.int (if nv i = 0 then 1 else 0))), NS σ nv, 0) := c_isZero hi (NS_Nt hi hb)
theorem n_isOne {i : Nat} (hi : NI i) (hb : Bd nv) : Er (d + 1) 18 (0, ent 18 [.ref i], [], NS σ nv) (.inl (some (.int (if nv i = 1 then 1 else 0))), NS σ nv, 0) := c_isOne hi (NS_Nt hi hb)
theorem n_len {i : Nat} (hi : NI i) (hb : Bd nv) : Er (d + 2) 14 (0, ent 14 [.ref i], [], NS σ nv) (.inl (some (.int (nI (bln (nv i))))), NS σ nv, 0) := c_len hi (NS_Nt hi hb)
theorem n_lowest {i : Nat} (hi : NI i) (hb : Bd nv) : Er (d + 1) 24 (0, ent 24 [.ref i], [], NS σ nv) (.inl (some (.long (lN (nv i % 2 ^ 64)))), NS σ nv, 0) := c_lowest hi (NS_Nt hi hb)
theorem n_cmp {i k : Nat} (hi : NI i) (hk : NI k) (hb : Bd nv) : Er (d + 2) 20 (0, ent 20 [.ref i, .ref k], [], NS σ nv) (.inl (some (.int (cmpI (nv i) (nv k)))), NS σ nv, 0) := c_cmp hi hk (NS_Nt hi hb) (NS_Nt hk hb)
theorem n_add {i k : Nat} (hi : NI i) (hk : NI k) (hne : k ≠ i) (hb : Bd nv) (hs : nv i + nv k < 2 ^ 640) : Er (d + 2) 29 (0, ent 29 [.ref i, .ref k], [], NS σ nv) (.inl none, NS σ (up nv i (nv i + nv k)), 0) := by
  rw [← NS_sN hi]
  exact c_add hi hk hne (NS_Nt hi hb) (NS_Nt hk hb) hs
theorem n_sub {i k : Nat} (hi : NI i) (hk : NI k) (hne : k ≠ i) (hb : Bd nv) (hs : nv k ≤ nv i) : Er (d + 2) 28 (0, ent 28 [.ref i, .ref k], [], NS σ nv) (.inl none, NS σ (up nv i (nv i - nv k)), 0) := by
  rw [← NS_sN hi]
  exact c_sub hi hk hne (NS_Nt hi hb) (NS_Nt hk hb) hs
theorem n_addOne {i : Nat} (hi : NI i) (hb : Bd nv) (hs : nv i + 1 < 2 ^ 640) : Er (d + 2) 30 (0, ent 30 [.ref i], [], NS σ nv) (.inl none, NS σ (up nv i (nv i + 1)), 0) := by
  rw [← NS_sN hi]
  exact c_addOne hi (NS_Nt hi hb) hs
theorem n_shiftUp {i n : Nat} (hi : NI i) (hb : Bd nv) (hn : n < 2 ^ 31) (hs : nv i * 2 ^ n < 2 ^ 640) : Er (d + 2) 22 (0, ent 22 [.ref i, .int (nI n)], [], NS σ nv) (.inl none, NS σ (up nv i (nv i * 2 ^ n)), 0) := by
  rw [← NS_sN hi]
  exact c_shiftUp hi (NS_Nt hi hb) hn hs
theorem n_shiftDown {i n : Nat} (hi : NI i) (hb : Bd nv) (hn : n < 2 ^ 30) : Er (d + 2) 23 (0, ent 23 [.ref i, .int (nI n)], [], NS σ nv) (.inl none, NS σ (up nv i (nv i / 2 ^ n)), 0) := by
  rw [← NS_sN hi]
  exact c_shiftDown hi (NS_Nt hi hb) hn
theorem n_bitsFrom {i n : Nat} (hi : NI i) (hb : Bd nv) (hn : n < 2 ^ 30) : Er (d + 2) 21 (0, ent 21 [.ref i, .int (nI n)], [], NS σ nv) (.inl (some (.long (lN (nv i / 2 ^ n % 2 ^ 64)))), NS σ nv, 0) := c_bitsFrom hi (NS_Nt hi hb) hn
theorem n_product {i k l : Nat} (hi : NI i) (hk : NI k) (hl : NI l) (hki : k ≠ i) (hli : l ≠ i) (hb : Bd nv) (hs : nd (nv k) + nd (nv l) ≤ 19) : Er (d + 2) 27 (0, ent 27 [.ref i, .ref k, .ref l], [], NS σ nv) (.inl none, NS σ (up nv i (nv k * nv l)), 0) := by
  rw [← NS_sN hi]
  exact c_product hi hk hl hki hli (NS_Nt hi hb) (NS_Nt hk hb) (NS_Nt hl hb) hs
theorem n_zerosBelow {i t m : Nat} (hi : NI i) (hb : Bd nv) (h : nv i = 2 ^ t * (2 * m + 1)) : Er (d + 2) 25 (0, ent 25 [.ref i], [], NS σ nv) (.inl (some (.int (nI t))), NS σ nv, 0) := by
  have := NS_Nt (σ := σ) hi hb
  rw [h] at this
  exact c_zerosBelow hi this
theorem n_takeWords {i v s : Nat} (hi : NI i) (hb : Bd nv) (hv : v < Bp 8) (hs : s + 8 ≤ 960) (hg : ∀ k, k < 8 → gal σ 40 (s + k) = lN (dg v k)) : Er (d + 2) 26 (0, ent 26 [.ref i, .ref 40, .int (nI s)], [], NS σ nv) (.inl none, NS σ (up nv i v), 0) := by
  rw [← NS_sN hi]
  exact c_takeWords hi (NS_Nt hi hb) hv hs (by rw [NS_al (by decide)]; exact hg)
theorem n_giveWords {i s : Nat} (hi : NI i) (hb : Bd nv) (hs : s + 8 ≤ 960) : Er (d + 1) 16 (0, ent 16 [.ref i, .ref 40, .int (nI s)], [], NS σ nv) (.inl none, NS (sar σ 40 (gvw (gal σ 40) s (nv i))) nv, 0) := by
  have := c_giveWords (d := d) hi (NS_Nt (σ := σ) hi hb) hs
  rw [NS_al (by decide), NS_sar (by decide)] at this
  exact this
theorem n_div {D i k : Nat} (hD : DI D) (hi : NI i) (hk : NI k) (i0 : i ≠ fr D 0) (i1 : i ≠ fr D 1) (k0 : k ≠ fr D 0) (k1 : k ≠ fr D 1) (k2 : k ≠ fr D 2) (hb : Bd nv) (hlt : nv i < 2 ^ 600) :
    ∃ x, x < 2 ^ 640 ∧ Er (d + 3) 6 (0, ent 6 [.ref D, .ref i, .ref k], [], NS σ nv) (.inl none, NS σ (up (up (up nv (fr D 0) (nv i / nv k)) (fr D 1) (nv i % nv k)) (fr D 2) x), 0) := by
  obtain ⟨x, hx, hE⟩ := c_div (d := d) hD hi hk i0 i1 k0 k1 k2 (NS_Nt (σ := σ) hi hb) (NS_Nt hk hb) (NS_Nt hD.q hb) (NS_Nt hD.r hb) (NS_Nt hD.v hb) hlt
  refine ⟨x, hx, ?_⟩
  rw [NS_sN hD.q, NS_sN hD.r, NS_sN hD.v] at hE
  exact hE
end
