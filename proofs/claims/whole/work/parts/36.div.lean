/-! Division -/
theorem rN_comm {σ : St} {i k : Nat} {f g : Nat → Int64} {n m : Int32} (h : k ≠ i) : rN (rN σ i f n) k g m = rN (rN σ k g m) i f n := by
  unfold rN sfi sar
  simp only
  congr 1
  · funext a b
    by_cases h1 : a = k ∧ b = 1
    · by_cases h2 : a = i ∧ b = 1
      · exact absurd (h1.1.symm.trans h2.1) h
      · rw [if_pos h1, if_neg h2, if_pos h1]
    · rw [if_neg h1]
      by_cases h2 : a = i ∧ b = 1
      · rw [if_pos h2, if_pos h2]
      · rw [if_neg h2, if_neg h2, if_neg h1]
  · congr 3
    funext a
    by_cases h1 : a = k + 16
    · by_cases h2 : a = i + 16
      · exact absurd (by omega) h
      · rw [if_pos h1, if_neg h2, if_pos h1]
    · rw [if_neg h1]
      by_cases h2 : a = i + 16
      · rw [if_pos h2, if_pos h2]
      · rw [if_neg h2, if_neg h2, if_neg h1]
theorem sN_comm {σ : St} {i k v w : Nat} (h : k ≠ i) : sN (sN σ i v) k w = sN (sN σ k w) i v := rN_comm h
def DI (D : Nat) : Prop := D = 3 ∨ D = 4
theorem DI.k {D : Nat} (h : DI D) : D < 24 ∧ kls D = 1 := by rcases h with rfl | rfl <;> exact ⟨by decide, rfl⟩
theorem DI.q {D : Nat} (h : DI D) : NI (fr D 0) := by rcases h with rfl | rfl <;> exact ⟨by decide, by decide⟩
theorem DI.r {D : Nat} (h : DI D) : NI (fr D 1) := by rcases h with rfl | rfl <;> exact ⟨by decide, by decide⟩
theorem DI.v {D : Nat} (h : DI D) : NI (fr D 2) := by rcases h with rfl | rfl <;> exact ⟨by decide, by decide⟩
theorem DI.qr {D : Nat} (h : DI D) : fr D 0 ≠ fr D 1 := by rcases h with rfl | rfl <;> decide
theorem DI.qv {D : Nat} (h : DI D) : fr D 0 ≠ fr D 2 := by rcases h with rfl | rfl <;> decide
theorem DI.rv {D : Nat} (h : DI D) : fr D 1 ≠ fr D 2 := by rcases h with rfl | rfl <;> decide
def gs (h l b : Nat) : Nat := if h < b then (h * 4294967296 + l) / b else 4294967295
theorem c_guess {d h l b : Nat} {σ : St} (hb1 : 0 < b) (hb : b < 4294967296) (hh : h ≤ b) (hl : l < 4294967296) : Er (d + 1) 8 (0, ent 8 [.long (lN h), .long (lN l), .long (lN b)], [], σ) (.inl (some (.long (lN (gs h l b)))), σ, 0) := by
  unfold gs
  refine b8_0 (fun g => ?_) (fun _ => ?_)
  · have : (0 : Int64) < lN b := (pk_lLT (a := 0) (by decide) (by omega)).mpr hb1
    exact absurd this g
  refine b8_7 (fun g => ?_) (fun g => ?_)
  · rw [pk_lLT (by omega) (by omega)] at g
    rw [if_pos g]
    have hboth : lN h <<< ((32 : Int32).toInt64 &&& 63) ||| lN l = lN (h * 4294967296 + l) := by
      rw [shl32]
      exact or_N (k := 32) hl (by omega)
    have hB : h * 4294967296 + l < b * 4294967296 := by
      have := Nat.mul_le_mul_right 4294967296 g
      rw [Nat.succ_mul] at this
      omega
    obtain ⟨n, hn⟩ : ∃ n, n = h * 4294967296 + l := ⟨_, rfl⟩
    have hn64 : n < 2 ^ 64 := by omega
    rw [← hn] at hboth hB ⊢
    have hw : ((((lN n).toUInt64 >>> ((1 : Int32).toInt64.toUInt64 &&& Int64.toUInt64 63)).toInt64) / lN b) <<< ((1 : Int32).toInt64 &&& 63) = lN (n / 2 / b * 2) := by
      rw [ushr_N (s := 1) 1 hn64 rfl (by decide), pk_lDiv (by omega) hb1 (by omega), shl_N (s := 1) 1 rfl (by decide)]
    obtain ⟨k, hk⟩ : ∃ k, k = n / 2 / b := ⟨_, rfl⟩
    rw [← hk] at hw
    have e1 : b * k + n / 2 % b = n / 2 := by rw [hk]; exact Nat.div_add_mod _ _
    have hr := Nat.mod_lt (n / 2) hb1
    have hle : k * 2 * b ≤ n := by
      rw [show k * 2 * b = 2 * (b * k) by ac_rfl]
      omega
    have hd : lN n - lN (k * 2) * lN b = lN (n - k * 2 * b) := by rw [lN_mul, lN_sub hle]
    have hsm : n - k * 2 * b < 2 * b := by
      rw [show k * 2 * b = 2 * (b * k) by ac_rfl]
      omega
    have hq : n / b = k * 2 + (n - k * 2 * b) / b := by
      have : n = (n - k * 2 * b) + b * (k * 2) := by
        rw [Nat.mul_comm b]
        omega
      conv => lhs; rw [this]
      rw [Nat.add_mul_div_left _ _ hb1, Nat.add_comm]
    refine b8_18 (fun z => ?_) (fun z => ?_) (fun z => ?_)
    · have : b = 0 := (lN_inj (by omega) (by decide)).mp z
      omega
    · rw [hboth, hw, hd, pk_lLT (by omega) (by omega)] at z
      rw [hq, Nat.div_eq_of_lt z, Nat.add_zero, hboth, hw]
      exact b8_58 b8_60
    · rw [hboth, hw, hd, pk_lLT (by omega) (by omega)] at z
      have : (n - k * 2 * b) / b = 1 := by
        apply Nat.div_eq_of_lt_le <;> omega
      rw [hq, this, hboth, hw, ← lN_1]
      exact b8_51 b8_60
  · rw [pk_lLT (by omega) (by omega)] at g
    rw [if_neg g]
    exact b8_14
/-- the words of the two at work -/
theorem DI.hv {D : Nat} (h : DI D) {σ : St} {V : Nat} {f : Nat → Int64} {n : Int32} (hV : Nt σ (fr D 2) V) : Nt (rN σ (fr D 1) f n) (fr D 2) V := rN_Nt h.rv.symm hV
theorem borrow_key {u m b : Nat} {z : Int} (hu : u < 4294967296) (hm : m < 4294967296) (hb : b ≤ 1) (hz : z = (u : Int) - m - b) : ∃ x c : Nat, (z % 4294967296).toNat = x ∧ x < 4294967296 ∧ c ≤ 1 ∧ (if z < 0 then lN 1 else lN 0) = lN c ∧ x + m + b = u + c * 4294967296 := by
  by_cases q : z < 0
  · exact ⟨(z % 4294967296).toNat, 1, rfl, by omega, by omega, by rw [if_pos q], by omega⟩
  · exact ⟨(z % 4294967296).toNat, 0, rfl, by omega, by omega, by rw [if_neg q], by omega⟩
theorem sd_div {U k m x : Nat} (h : k < m) (hx : x < 4294967296) : sd U k x / Bp m = U / Bp m := by
  obtain ⟨i, rfl⟩ : ∃ i, m = k + 1 + i := ⟨m - k - 1, by omega⟩
  rw [Bp_add, ← Nat.div_div_eq_div_mul, ← Nat.div_div_eq_div_mul]
  have h1 : U % Bp k + x * Bp k < Bp (k + 1) := by
    have hm := mod_lt_Bp U k
    have h2 : (x + 1) * Bp k ≤ Bp (k + 1) := by
      rw [Bp_succ, Nat.mul_comm (Bp k)]
      exact Nat.mul_le_mul_right _ hx
    rw [Nat.add_mul, Nat.one_mul] at h2
    omega
  have e : sd U k x / Bp (k + 1) = U / Bp (k + 1) := by
    unfold sd
    rw [Nat.add_mul_div_right _ _ (Bp_pos _), Nat.div_eq_of_lt h1, Nat.zero_add]
  rw [e]
theorem off_e3 (w a y u s : Nat) : w * (a + y * u) * s = w * a * s + w * y * (s * u) := by
  rw [Nat.mul_add, Nat.add_mul, show w * (y * u) * s = w * y * (s * u) by ac_rfl]
theorem c_takeOff {d D U V w p : Nat} {σ : St} {n : Int32} (hD : DI D) (hV : Nt σ (fr D 2) V) (hw : w < 4294967296) (hp : p + nd V ≤ 20) (hU : U < Bp 20) :
    ∃ U2 c : Nat, Er (d + 1) 9 (0, ent 9 [.ref D, .long (lN w), .int (nI p)], [], rN σ (fr D 1) (dgs U) n) (.inl (some (.long (lZ (-(c : Int))))), rN σ (fr D 1) (dgs U2) n, 0) ∧ U2 + w * V * Bp p = U + c * Bp (p + nd V) ∧ c ≤ 4294967296 ∧ U2 < Bp 20 ∧ U2 / Bp (p + nd V) = U / Bp (p + nd V) := by
  have loop : ∀ r t Ut c b, t + r = nd V → c < 4294967296 → b ≤ 1 → Ut < Bp 20 → Ut / Bp (p + nd V) = U / Bp (p + nd V) → Ut + w * (V % Bp t) * Bp p = U + (c + b) * Bp (p + t) → ∀ o9 o10 o11 o12, ∃ U2 c2 : Nat, Er (d + 1) 9 (9, [some (.ref D), some (.long (lN w)), none, some (.int (nI p)), some (.long (lN c)), none, some (.long (lN b)), none, some (.int (nI t)), o9, o10, o11, o12], [], rN σ (fr D 1) (dgs Ut) n) (.inl (some (.long (lZ (-(c2 : Int))))), rN σ (fr D 1) (dgs U2) n, 0) ∧ U2 + w * V * Bp p = U + c2 * Bp (p + nd V) ∧ c2 ≤ 4294967296 ∧ U2 < Bp 20 ∧ U2 / Bp (p + nd V) = U / Bp (p + nd V) := by
    intro r
    induction r with
    | zero =>
      intro t Ut c b ht hc hb hUt hdg e1 o9 o10 o11 o12
      rw [Nat.add_zero] at ht
      subst ht
      rw [Bp_mod (nd_self V)] at e1
      refine ⟨Ut, c + b, ?_, e1, by omega, hUt, hdg⟩
      refine b9_9 hD.k hD.v.k (fun _ => ?_) (fun q => absurd (by rw [rN_on hD.rv.symm, hV.2.1]; exact Int32.le_refl _) q)
      have e : -lN c - lN b = lZ (-((c + b : Nat) : Int)) := by
        rw [← lZ_N, ← lZ_N, lZ_neg, lZ_sub]
        congr 1
        omega
      rw [← e]
      exact b9_109
    | succ r ih =>
      intro t Ut c b ht hc hb hUt hdg e1 o9 o10 o11 o12
      have hu := dg_lt Ut (p + t)
      have hv := dg_lt V t
      have hwv : w * dg V t ≤ 4294967295 * 4294967295 := Nat.mul_le_mul (by omega) (by omega)
      have hm : (w * dg V t + c) % 4294967296 < 4294967296 := Nat.mod_lt _ (by decide)
      obtain ⟨x, b2, hx, hx2, hb2, hs, key⟩ := borrow_key (z := (dg Ut (p + t) : Int) - ((w * dg V t + c) % 4294967296 : Nat) - b) hu hm hb rfl
      have ds := sd_eq Ut (p + t) x
      have nxt := ih (t + 1) (sd Ut (p + t) x) ((w * dg V t + c) / 4294967296) b2 (by omega) (by omega) hb2 (sd_lt hUt (by omega) hx2) (by rw [sd_div (by omega) hx2]; exact hdg) (by
        have sp := dg_split V t
        have cq := carry_eq (w * dg V t + c) (Bp (p + t))
        rw [← Bp_succ] at cq
        have e3 : w * (V % Bp (t + 1)) * Bp p = w * (V % Bp t) * Bp p + w * dg V t * Bp (p + t) := by
          rw [sp, Bp_add, off_e3]
        have k2 : (x + (w * dg V t + c) % 4294967296 + b) * Bp (p + t) = (dg Ut (p + t) + b2 * 4294967296) * Bp (p + t) := by rw [key]
        rw [Nat.add_mul, Nat.add_mul, Nat.add_mul] at k2
        have k3 : b2 * Bp (p + t + 1) = b2 * 4294967296 * Bp (p + t) := by
          rw [Bp_succ, Nat.mul_assoc, Nat.mul_comm 4294967296]
        rw [Nat.add_mul] at cq e1
        rw [e3, ← Nat.add_assoc p t 1, Nat.add_mul]
        omega)
        (some (.long (lN (w * dg V t + c)))) none (some (.long (lZ ((dg Ut (p + t) : Int) - ((w * dg V t + c) % 4294967296 : Nat) - b)))) none
      obtain ⟨U2, c2, hE, rest⟩ := nxt
      refine ⟨U2, c2, ?_, rest⟩
      refine b9_9 hD.k hD.v.k (fun q => absurd q (by rw [rN_on hD.rv.symm, hV.2.1]; exact nI_ge (by omega) (by omega))) (fun _ => ?_)
      refine b9_21 (fun q => absurd q (by rw [nI_add]; exact nI_ge (b := 20) (by omega) (by decide))) (fun _ => ?_)
      refine b9_30 hD.k hD.v.k (hD.v.w (by omega)) hD.r.k (by rw [nI_add]; exact hD.r.w (by omega)) ?_
      rw [rd hD.v (hD.hv hV).1 (by omega), nI_add, rd hD.r (rN_f _ _ _ _) (by omega), lN_mul, lN_add, m32, ushr32 (by omega), nI_1, ← lZ_N (dg Ut (p + t)), ← lZ_N ((w * dg V t + c) % 4294967296), ← lZ_N b, lZ_sub, lZ_sub, mZ, sgnZ (by omega) (by omega), hx, hs, wr hD.r (by omega) hx2]
      exact hE
  obtain ⟨U2, c, hE, rest⟩ := loop (nd V) 0 U 0 0 (by omega) (by decide) (by decide) hU rfl (by rw [Bp_0, Nat.mod_one, Nat.mul_zero, Nat.zero_mul, Nat.zero_mul]) none none none none
  exact ⟨U2, c, b9_0 hE, rest⟩
theorem c_putBack {d D U V p : Nat} {σ : St} {n : Int32} (hD : DI D) (hV : Nt σ (fr D 2) V) (hp : p + nd V ≤ 20) (hU : U < Bp 20) :
    ∃ U2 c : Nat, Er (d + 1) 10 (0, ent 10 [.ref D, .int (nI p)], [], rN σ (fr D 1) (dgs U) n) (.inl (some (.long (lN c))), rN σ (fr D 1) (dgs U2) n, 0) ∧ U2 + c * Bp (p + nd V) = U + V * Bp p ∧ c < 3 ∧ U2 < Bp 20 ∧ U2 / Bp (p + nd V) = U / Bp (p + nd V) := by
  have loop : ∀ r t Ut c, t + r = nd V → c < 3 → Ut < Bp 20 → Ut / Bp (p + nd V) = U / Bp (p + nd V) → Ut + c * Bp (p + t) = U + V % Bp t * Bp p → ∀ o5 o6, ∃ U2 c2 : Nat, Er (d + 1) 10 (5, [some (.ref D), some (.int (nI p)), some (.long (lN c)), none, some (.int (nI t)), o5, o6], [], rN σ (fr D 1) (dgs Ut) n) (.inl (some (.long (lN c2))), rN σ (fr D 1) (dgs U2) n, 0) ∧ U2 + c2 * Bp (p + nd V) = U + V * Bp p ∧ c2 < 3 ∧ U2 < Bp 20 ∧ U2 / Bp (p + nd V) = U / Bp (p + nd V) := by
    intro r
    induction r with
    | zero =>
      intro t Ut c ht hc hUt hdg e1 o5 o6
      rw [Nat.add_zero] at ht
      subst ht
      rw [Bp_mod (nd_self V)] at e1
      refine ⟨Ut, c, ?_, e1, hc, hUt, hdg⟩
      exact b10_5 hD.k hD.v.k (fun _ => b10_83) (fun q => absurd (by rw [rN_on hD.rv.symm, hV.2.1]; exact Int32.le_refl _) q)
    | succ r ih =>
      intro t Ut c ht hc hUt hdg e1 o5 o6
      have hu := dg_lt Ut (p + t)
      have hv := dg_lt V t
      have hx2 : (dg Ut (p + t) + dg V t + c) % 4294967296 < 4294967296 := Nat.mod_lt _ (by decide)
      have nxt := ih (t + 1) (sd Ut (p + t) ((dg Ut (p + t) + dg V t + c) % 4294967296)) ((dg Ut (p + t) + dg V t + c) / 4294967296) (by omega) (by omega) (sd_lt hUt (by omega) hx2) (by rw [sd_div (by omega) hx2]; exact hdg) (by
        have ds := dstep Ut (p + t) (dg Ut (p + t) + dg V t + c)
        rw [Nat.add_mul (dg Ut (p + t) + dg V t), Nat.add_mul (dg Ut (p + t))] at ds
        have sp := dg_split V t
        have e3 : V % Bp (t + 1) * Bp p = V % Bp t * Bp p + dg V t * Bp (p + t) := by
          rw [sp, Nat.add_mul, Bp_add, Nat.mul_assoc (dg V t), Nat.mul_comm (Bp t)]
        rw [e3, ← Nat.add_assoc p t 1]
        omega)
        (some (.long (lN (dg Ut (p + t) + dg V t + c)))) none
      obtain ⟨U2, c2, hE, rest⟩ := nxt
      refine ⟨U2, c2, ?_, rest⟩
      refine b10_5 hD.k hD.v.k (fun q => absurd q (by rw [rN_on hD.rv.symm, hV.2.1]; exact nI_ge (by omega) (by omega))) (fun _ => ?_)
      refine b10_17 (fun q => absurd q (by rw [nI_add]; exact nI_ge (b := 20) (by omega) (by decide))) (fun _ => ?_)
      refine b10_26 hD.k hD.r.k (by rw [nI_add]; exact hD.r.w (by omega)) hD.v.k (hD.v.w (by omega)) ?_
      rw [rd hD.v (hD.hv hV).1 (by omega), nI_add, rd hD.r (rN_f _ _ _ _) (by omega), lN_add, lN_add, m32, ushr32 (by omega), nI_1, wr hD.r (by omega) hx2]
      exact hE
  obtain ⟨U2, c, hE, rest⟩ := loop (nd V) 0 U 0 (by omega) (by decide) hU rfl (by rw [Bp_0, Nat.mod_one, Nat.zero_mul, Nat.zero_mul]) none none
  exact ⟨U2, c, b10_0 hE, rest⟩
