/-! Machine: remainders, casts -/
theorem mod_shift (m t n : Nat) (k : Nat) : (m % n * 2 ^ k) % n = m * 2 ^ k % n := Nat.mod_mul_mod _ _ _
section
variable {d v w : Nat} {S : St}
theorem h_rest {m n t : Nat} (hm : m < 2 ^ 53) (hn0 : 0 < n) (hn : n < 2 ^ 53) (ht : t < 5000) : Er (d + 1) 154 (0, ent 154 [.long (lN m), .int (nI t), .long (lN n)], [], S) (.inl (some (.long (lN (m * 2 ^ t % n)))), S, 0) := by
  have nz : ¬ lN n = 0 := by
    intro c
    have := (lN_inj (b := 0) (by omega) (by decide)).mp c
    omega
  refine b154_0 (fun _ => b154_8 nz ?_) (fun z => absurd ((pk_lLT (a := 0) (by decide) (by omega)).mpr hn0) z)
  rw [pk_lRem (by omega) hn0 (by omega)]
  have loop : ∀ (k r : Nat) (z : Int), z ≤ 10 * (k : Int) → -10 < z → z < 5000 → r < n → r * 2 ^ z.toNat % n = m * 2 ^ t % n → Er (d + 1) 154 (16, [some (.long (lN m)), none, some (.int (nI t)), some (.long (lN n)), none, some (.long (lN r)), none, some (.int (iZ z))], [], S) (.inl (some (.long (lN (m * 2 ^ t % n)))), S, 0) := by
    intro k
    induction k with
    | zero =>
      intro r z hz1 hz2 hz3 hr he
      rw [show z.toNat = 0 by omega, Nat.pow_zero, Nat.mul_one, Nat.mod_eq_of_lt hr] at he
      refine b154_16 (fun _ => ?_) (fun c => ?_)
      · rw [← he]
        exact b154_41
      · exact absurd ((iZ_le (b := 0) (by omega) (by omega) (by decide) (by decide)).mpr (by omega)) c
    | succ k ih =>
      intro r z hz1 hz2 hz3 hr he
      by_cases hpos : z ≤ 0
      · rw [show z.toNat = 0 by omega, Nat.pow_zero, Nat.mul_one, Nat.mod_eq_of_lt hr] at he
        refine b154_16 (fun _ => ?_) (fun c => ?_)
        · rw [← he]
          exact b154_41
        · exact absurd ((iZ_le (b := 0) (by omega) (by omega) (by decide) (by decide)).mpr hpos) c
      · refine b154_16 (fun c => ?_) (fun _ => b154_21 nz ?_)
        · have := (iZ_le (b := 0) (by omega) (by omega) (by decide) (by decide)).mp c
          omega
        · obtain ⟨j, hj⟩ : ∃ j : Nat, j = min z.toNat 10 := ⟨_, rfl⟩
          have ej : (if (10 : Int32) < iZ z then (10 : Int32) else iZ z) = nI j := by
            obtain ⟨u, hu⟩ : ∃ u : Nat, z = u := ⟨z.toNat, by omega⟩
            rw [hu, iZ_N, hj, hu, Int.toNat_natCast]
            exact imin (y := 10) (by omega) (by decide)
          have hp : 2 ^ j ≤ 2 ^ 10 := Nat.pow_le_pow_right (by decide) (by omega)
          have hb : r * 2 ^ j < 2 ^ 63 := by
            have : r * 2 ^ j ≤ r * 2 ^ 10 := Nat.mul_le_mul_left _ hp
            omega
          rw [ej, shl_N j rfl (by omega), pk_lRem hb hn0 (by omega), show (-10 : Int32) = iZ (-10) from rfl, iZ_add]
          refine ih (r * 2 ^ j % n) (z + -10) (by omega) (by omega) (by omega) (Nat.mod_lt _ hn0) ?_
          rw [← he, Nat.mod_mul_mod, Nat.mul_assoc, ← Nat.pow_add]
          congr 3
          omega
  have h0 := loop 500 (m % n) (t : Int) (by omega) (by omega) (by omega) (Nat.mod_lt _ hn0) (by rw [Int.toNat_natCast, Nat.mod_mul_mod])
  rw [iZ_N] at h0
  exact h0
def rmV (v w : Nat) : Nat := if (infN < fsz 46 v ∨ infN < fsz 46 w) ∨ ¬ fsz 46 v < infN ∨ fsz 46 w = 0 then 9221120237041090560 else if fsz 46 v < fsz 46 w then v else ew 46 (sgB v) (fsi 46 v * 2 ^ (fsc 46 v - fsc 46 w).toNat % fsi 46 w) (fsc 46 w)
theorem fsc_mono {v w : Nat} (h : fsz 46 w ≤ fsz 46 v) : fsc 46 w ≤ fsc 46 v := by
  have : fex 46 w ≤ fex 46 v := Nat.div_le_div_right h
  unfold fsc
  omega
theorem h_rem (hv : v < 2 ^ 64) (hw : w < 2 ^ 64) : Er (d + 4) 152 (0, ent 152 [.long (lN v), .long (lN w)], [], S) (.inl (some (.long (lN (rmV v w)))), S, 0) := by
  have hz := fsc_rng (n := v)
  have hz2 := fsc_rng (n := w)
  have hm := fsi_53 (n := v)
  have hm2 := fsi_53 (n := w)
  have s1 := fsz_63 (n := v) O46
  have s2 := fsz_63 (n := w) O46
  refine b152_0 (h_one hv hw) ?_
  unfold rmV
  have bad : ∀ {c : Nat}, c = 9221120237041090560 → Er (d + 4) 152 (33, [some (.long (lN v)), none, some (.long (lN w)), none, some (.ref 46), none, none, none, none], [], S) (.inl (some (.long (lN c))), S, 0) := by
    intro c hc
    subst hc
    exact b152_33 O46
  by_cases a : infN < fsz 46 v ∨ infN < fsz 46 w
  · rw [if_pos a]
    exact b152_10 (fun _ => bad (by rw [if_pos (Or.inl a)])) (fun z => absurd z (by decide))
  · rw [if_neg a]
    refine b152_10 (fun z => absurd rfl z) (fun _ => b152_13 O46 (h_fin hv) ?_)
    by_cases b : fsz 46 v < infN
    · rw [if_pos b]
      refine b152_19 (fun z => absurd z (by decide)) (fun _ => b152_22 O46 (f_size O46 hw) (b152_28 (fun z => ?_) (fun z => ?_)))
      · have h0 : ¬ fsz 46 w = 0 := fun c => z (by rw [c]; rfl)
        rw [if_neg (fun c => c.elim a (fun c => c.elim (fun c => c b) h0))]
        refine b152_39 O46 (f_size O46 hv) (b152_45 O46 (f_size O46 hw) (b152_51 (fun y => ?_) (fun y => ?_)))
        · rw [pk_lLT s1 s2] at y
          rw [if_neg y]
          have hmono := fsc_mono (v := v) (w := w) (by omega)
          have hn0 : 0 < fsi 46 w := Nat.pos_of_ne_zero (fun c => h0 ((fsi_0 O46).mp c))
          obtain ⟨t, ht⟩ : ∃ t : Nat, t = (fsc 46 v - fsc 46 w).toNat := ⟨_, rfl⟩
          rw [← ht]
          have t1 := h_rest (d := d + 2) (S := S) (t := t) hm hn0 hm2 (by omega)
          have hr : fsi 46 v * 2 ^ t % fsi 46 w < 2 ^ 53 := Nat.lt_trans (Nat.mod_lt _ hn0) hm2
          have t2 := f_enc1 (d := d + 1) (S := S) (x := 46) (s := fsi 46 v * 2 ^ t % fsi 46 w) (dir := 0) (b := sgB v) (z := fsc 46 w) O46 (by omega) (by omega) (by omega) (by decide)
          refine b152_57 O46 (f_sig O46 hw) (b152_63 O46 (f_sig O46 hv) (b152_71 O46 (f_scale O46 hv) (b152_77 O46 (f_scale O46 hw) (b152_83 (r := lN (fsi 46 v * 2 ^ t % fsi 46 w)) (σ2 := S) ?_ (b152_89 O46 (h_sign hv) (b152_99 O46 (f_scale O46 hw) (b152_107 O46 t2 b152_112)))))))
          rw [iZ_sub, show fsc 46 v - fsc 46 w = (t : Int) by omega, iZ_N]
          exact t1
        · rw [pk_lLT s1 s2] at y
          rw [if_pos y]
          exact b152_55
      · have h0 : fsz 46 w = 0 := (lN_inj (b := 0) (by omega) (by decide)).mp z
        exact bad (by rw [if_pos (Or.inr (Or.inr h0))])
    · rw [if_neg b]
      exact b152_19 (fun _ => bad (by rw [if_pos (Or.inr (Or.inl b))])) (fun z => absurd rfl z)
/-- a double cut to a whole number -/
def cutN (v : Nat) : Nat := if 0 ≤ fsc 46 v then fsi 46 v * 2 ^ (fsc 46 v).toNat else fsi 46 v / 2 ^ (-(fsc 46 v)).toNat
def tlV (v : Nat) : Int := if infN < fsz 46 v then 0 else if 64 ≤ (bln (fsi 46 v) : Int) + fsc 46 v then (if sgB v then -9223372036854775808 else 9223372036854775807) else if sgB v then -(cutN v : Int) else cutN v
theorem rndQ_3 {b : Bool} {N D : Nat} : rndQ 3 b N D = N / D := rndQ_no (by unfold upQ; omega)
theorem h_long (hv : v < 2 ^ 64) : Er (d + 4) 164 (0, ent 164 [.long (lN v)], [], S) (.inl (some (.long (lZ (tlV v)))), S, 0) := by
  have hz := fsc_rng (n := v)
  have hm := fsi_53 (n := v)
  have hl : bln (fsi 46 v) ≤ 53 := by rw [bln_le]; exact hm
  refine b164_0 O46 (h_nan hv) ?_
  by_cases a : infN < fsz 46 v
  · rw [if_pos a, show tlV v = 0 from if_pos a]
    exact b164_9 (fun z => absurd z (by decide)) (fun _ => b164_12)
  · rw [if_neg a]
    refine b164_9 (fun _ => b164_14 O46 (h_sign hv) (b164_19 O46 (f_sig O46 hv) (b164_25 O46 (f_scale O46 hv) (b164_32 (c_length (by omega)) (b164_39 (fun z => ?_) (fun z => ?_)))))) (fun z => absurd rfl z)
    · rw [← iZ_N, iZ_add, show (64 : Int32) = iZ 64 from rfl, iZ_lt (by omega) (by omega) (by decide) (by decide)] at z
      have eT : tlV v = if sgB v then -(cutN v : Int) else (cutN v : Int) := by
        unfold tlV
        rw [if_neg a, if_neg (by omega)]
      rw [eT]
      have t1 : Er (d + 3) 151 (0, ent 151 [.int (if sgB v then 1 else 0), .long (lN (fsi 46 v)), .int (-iZ (fsc 46 v)), .int 0, .int 3], [], S) (.inl (some (.long (lN (cutN v)))), S, 0) := by
        unfold cutN
        by_cases c : 0 ≤ fsc 46 v
        · rw [if_pos c]
          obtain ⟨t, ht⟩ : ∃ t : Nat, (t : Int) = fsc 46 v := ⟨(fsc 46 v).toNat, by omega⟩
          rw [← ht, Int.toNat_natCast, iZ_neg]
          by_cases m0 : fsi 46 v = 0
          · exfalso
            have := (fsi_0 O46).mp m0
            have e : fex 46 v = 0 := by
              unfold fex
              have : v % 2 ^ fs 46 = 0 := this
              rw [this, Nat.zero_div]
            have : fsc 46 v = -1074 := by
              unfold fsc
              rw [e]
              rfl
            omega
          · have := bln_pos.mpr (Nat.pos_of_ne_zero m0)
            exact f_drop0 (r := false) (by omega)
        · rw [if_neg c]
          obtain ⟨t, ht⟩ : ∃ t : Nat, (t : Int) = -fsc 46 v := ⟨(-fsc 46 v).toNat, by omega⟩
          rw [iZ_neg, ← ht, Int.toNat_natCast, iZ_N]
          have t2 := f_drop (d := d + 2) (S := S) (N := fsi 46 v) (D := 1) (t := t) (dir := 3) (b := sgB v) (by decide) (by omega) (by omega) (by rw [Nat.div_one]; omega) (by decide)
          rw [Nat.div_one, Nat.mod_one, Nat.one_mul, rndQ_3] at t2
          exact t2
      refine b164_61 t1 ?_
      cases sgB v with
      | false =>
        rw [show (if false = true then -(cutN v : Int) else (cutN v : Int)) = (cutN v : Int) from if_neg (by simp), lZ_N]
        exact b164_72 (fun _ => b164_84 b164_86) (fun z => absurd rfl z)
      | true =>
        rw [show (if true = true then -(cutN v : Int) else (cutN v : Int)) = -(cutN v : Int) from if_pos rfl, ← lZ_neg, lZ_N]
        exact b164_72 (fun z => absurd z (by decide)) (fun _ => b164_78 b164_86)
    · rw [← iZ_N, iZ_add, show (64 : Int32) = iZ 64 from rfl, iZ_lt (by omega) (by omega) (by decide) (by decide)] at z
      have eT : tlV v = if sgB v then -9223372036854775808 else 9223372036854775807 := by
        unfold tlV
        rw [if_neg a, if_pos (by omega)]
      rw [eT]
      cases sgB v with
      | false => exact b164_47 (fun _ => b164_57 b164_60) (fun z => absurd rfl z)
      | true => exact b164_47 (fun z => absurd z (by decide)) (fun _ => b164_51 b164_60)
theorem cut_lt63 {v : Nat} (h : ¬ 64 ≤ (bln (fsi 46 v) : Int) + fsc 46 v) : cutN v < 2 ^ 63 := by
  have hm := fsi_53 (n := v)
  unfold cutN
  by_cases c : 0 ≤ fsc 46 v
  · rw [if_pos c]
    obtain ⟨t, ht⟩ : ∃ t : Nat, (t : Int) = fsc 46 v := ⟨(fsc 46 v).toNat, by omega⟩
    rw [← ht, Int.toNat_natCast]
    have h1 := bln_lt (v := fsi 46 v)
    have h2 : fsi 46 v * 2 ^ t < 2 ^ bln (fsi 46 v) * 2 ^ t := Nat.mul_lt_mul_of_pos_right h1 (Nat.two_pow_pos t)
    rw [← Nat.pow_add] at h2
    exact Nat.lt_of_lt_of_le h2 (Nat.pow_le_pow_right (by decide) (by omega))
  · rw [if_neg c]
    exact Nat.lt_of_le_of_lt (Nat.div_le_self _ _) (by omega)
theorem tlV_rng (v : Nat) : -2 ^ 63 ≤ tlV v ∧ tlV v < 2 ^ 63 := by
  unfold tlV
  by_cases a : infN < fsz 46 v
  · rw [if_pos a]; decide
  · rw [if_neg a]
    by_cases b : 64 ≤ (bln (fsi 46 v) : Int) + fsc 46 v
    · rw [if_pos b]; split <;> decide
    · rw [if_neg b]
      have := cut_lt63 b
      split <;> omega
def tiV (v : Nat) : Int := max (-2147483648) (min (tlV v) 2147483647)
theorem h_int (hv : v < 2 ^ 64) : Er (d + 5) 165 (0, ent 165 [.long (lN v)], [], S) (.inl (some (.int (iZ (tiV v)))), S, 0) := by
  have hr := tlV_rng v
  refine b165_0 (h_long hv) ?_
  have t := b165_7 (d := d + 4) (x0 := lN v) (s0 := -2147483648) (s1 := lZ (tlV v)) (σ := S)
  have t1 : (2147483647 : Int64).toInt = 2147483647 := rfl
  have t2 : (-2147483648 : Int64).toInt = -2147483648 := rfl
  have e1 : (if (2147483647 : Int64) < lZ (tlV v) then (2147483647 : Int64) else lZ (tlV v)) = lZ (min (tlV v) 2147483647) := by
    by_cases c : (2147483647 : Int64) < lZ (tlV v)
    · rw [if_pos c]
      rw [l_lt, t1, lZ_t hr.1 hr.2] at c
      rw [show min (tlV v) 2147483647 = 2147483647 by omega]
      rfl
    · rw [if_neg c]
      rw [l_lt, t1, lZ_t hr.1 hr.2] at c
      rw [show min (tlV v) 2147483647 = tlV v by omega]
  have e2 : (if lZ (min (tlV v) 2147483647) < (-2147483648 : Int64) then (-2147483648 : Int64) else lZ (min (tlV v) 2147483647)) = lZ (tiV v) := by
    unfold tiV
    by_cases c : lZ (min (tlV v) 2147483647) < (-2147483648 : Int64)
    · rw [if_pos c]
      rw [l_lt, t2, lZ_t (by omega) (by omega)] at c
      rw [show max (-2147483648) (min (tlV v) 2147483647) = -2147483648 by omega]
      rfl
    · rw [if_neg c]
      rw [l_lt, t2, lZ_t (by omega) (by omega)] at c
      rw [show max (-2147483648) (min (tlV v) 2147483647) = min (tlV v) 2147483647 by omega]
  rw [e1, e2, lZ_i] at t
  exact t
def chV (x y v : Nat) : Nat := if fe x * 2 ^ fb x < fsz x v then fn y else if fsz x v < fe x * 2 ^ fb x then ew y (decide (fsg x v = 1)) (fsi x v) (fsc x v) else fe y * 2 ^ fb y + sbit y (decide (fsg x v = 1))
theorem h_change {x y : Nat} (hx : FO x) (hy : FO y) (hv : v < 2 ^ 64) : Er (d + 4) 166 (0, ent 166 [.ref x, .ref y, .long (lN v)], [], S) (.inl (some (.long (lN (chV x y v)))), S, 0) := by
  obtain ⟨x1, x2, x3, x4, x5, x6, x7, x8, x9, x10⟩ := hx.s
  have hex := fex_lt (n := v) hx
  have hsc : -10000 ≤ fsc x v ∧ fsc x v ≤ 10000 := by unfold fsc; omega
  have hm : fsi x v < 2 ^ 60 := Nat.lt_of_lt_of_le (fsi_lt hx) (Nat.pow_le_pow_right (by decide) (by omega))
  have hsg : nI (fsg x v) = if decide (fsg x v = 1) then 1 else 0 := by
    have : fsg x v < 2 := Nat.mod_lt _ (by decide)
    rcases (by omega : fsg x v = 0 ∨ fsg x v = 1) with c | c <;> rw [c] <;> rfl
  have ts := f_hasSign (d := d + 2) (S := S) hx hv
  rw [hsg] at ts
  refine b166_0 hx (f_nan hx hv) ?_
  unfold chV
  by_cases a : fe x * 2 ^ fb x < fsz x v
  · rw [if_pos a, if_pos a, ← hy.no]
    exact b166_5 (fun z => absurd z (by decide)) (fun _ => b166_8 hy)
  · rw [if_neg a, if_neg a]
    refine b166_5 (fun _ => b166_13 hx ts (b166_18 hx (f_fin hx hv) ?_)) (fun z => absurd rfl z)
    by_cases b : fsz x v < fe x * 2 ^ fb x
    · rw [if_pos b, if_pos b]
      have t := f_enc1 (d := d + 1) (S := S) (x := y) (s := fsi x v) (dir := 0) (b := decide (fsg x v = 1)) (z := fsc x v) hy hm hsc.1 hsc.2 (by decide)
      exact b166_25 (fun _ => b166_39 hx (f_sig hx hv) (b166_47 hx (f_scale hx hv) (b166_52 hy t b166_57))) (fun z => absurd z (by decide))
    · rw [if_neg b, if_neg b]
      have hlt : fe y * 2 ^ fb y < 2 ^ fs y := by
        have := hy.i
        have := Nat.two_pow_pos (fb y)
        omega
      have t := f_signed (d := d + 2) (x := y) (n := fe y * 2 ^ fb y) (S := S) (b := decide (fsg x v = 1)) hy hlt
      refine b166_25 (fun z => absurd rfl z) (fun _ => b166_28 hy ?_ b166_38)
      rw [hy.inf]
      exact t
end
section
variable {d n v w : Nat} {σ : St}
def macV (k v w : Nat) : Int64 :=
  match k with
  | 0 => lN (rmV v w)
  | 1 => lN (twhV v 2)
  | 2 => lN (twhV v 1)
  | 3 => lN (twhV v 0)
  | 4 => lN (grV v w)
  | 5 => lN (leV v w)
  | 6 => lN (wsgV v w)
  | 7 => naV v
  | 8 => lN (stV v)
  | 9 => lN (twV v (lN w))
  | _ => lZ (reV v w)
theorem x_machine {k : Nat} (hk : k ≤ 10) (hv : v < 2 ^ 64) (hw : w < 2 ^ 64) : Cl (d + 5) 73 [.ref 0, .int (nI k), .long (lN v), .long (lN w)] σ (.inl (some (.long (macV k v w)))) σ := by
  intro nv sd g hb
  refine ⟨nv, sd, g, 0, hb, by decide, ?_⟩
  rcases (by omega : k = 0 ∨ k = 1 ∨ k = 2 ∨ k = 3 ∨ k = 4 ∨ k = 5 ∨ k = 6 ∨ k = 7 ∨ k = 8 ∨ k = 9 ∨ k = 10) with rfl | rfl | rfl | rfl | rfl | rfl | rfl | rfl | rfl | rfl | rfl
  · exact b73_0 (b73_60 (h_rem hv hw) b73_66)
  · exact b73_0 (b73_67 (h_whole (dir := 2) hv (by decide)) b73_72)
  · exact b73_0 (b73_73 (h_whole (dir := 1) hv (by decide)) b73_78)
  · exact b73_0 (b73_79 (h_whole (dir := 0) hv (by decide)) b73_84)
  · exact b73_0 (b73_85 (h_greater hv hw) b73_91)
  · exact b73_0 (b73_92 (h_lesser hv hw) b73_98)
  · exact b73_0 (b73_99 (h_with hv hw) b73_105)
  · exact b73_0 (b73_106 (h_next hv) b73_110)
  · exact b73_0 (b73_111 (h_step hv) b73_115)
  · exact b73_0 (b73_116 (h_two hv) b73_122)
  · exact b73_0 (b73_123 (h_rel hv hw) b73_129)
theorem tsw_out {pc : Nat} {dd lo hi : Int} {os : Array Int} {x : Int} (h : x < lo ∨ hi < x) : tsw pc dd lo hi os x = ((pc : Int) + dd).toNat := if_pos h
theorem not_nI {x : Int32} {m : Nat} (hm : m < 2 ^ 31) (h : ¬ ∃ k, k ≤ m ∧ x = nI k) : x.toInt < 0 ∨ (m : Int) < x.toInt := by
  by_cases c : x.toInt < 0
  · exact Or.inl c
  · refine Or.inr ?_
    have z0 : ¬ x < 0 := by
      rw [i_lt]
      exact c
    obtain ⟨j, hj, rfl⟩ := nI_of z0
    rw [nI_toInt hj] at c ⊢
    by_cases e : j ≤ m
    · exact absurd ⟨j, e, rfl⟩ h
    · omega
theorem x_machinex {x1 : Int32} {a b : Int64} (h : ¬ ∃ k, k ≤ 10 ∧ x1 = nI k) : Cl (d + 6) 73 [.ref 0, .int x1, .long a, .long b] σ (.inr 1) σ := by
  intro nv sd g hb
  refine ⟨nv, sd, g, 1, hb, by decide, b73_0 ?_⟩
  have hn : x1.toInt < 0 ∨ (10 : Int) < x1.toInt := not_nI (by decide) h
  rw [tsw_out hn]
  exact b73_130
def casV (k v : Nat) : Int64 :=
  match k with
  | 0 => lZ (tlV v)
  | 1 => (iZ (tiV v)).toInt64
  | 2 => (iZ (tiV v)).toInt16.toInt32.toInt64
  | 3 => (iZ (tiV v)).toInt8.toInt32.toInt64
  | 4 => ((iZ (tiV v)).toUInt32 % 65536).toInt32.toInt64
  | 5 => (lN (chV 46 47 v)).toInt32.toInt64
  | _ => lN (chV 47 46 v)
theorem x_cast {k : Nat} (hk : k ≤ 6) (hv : v < 2 ^ 64) : Cl (d + 6) 74 [.ref 0, .int (nI k), .long (lN v)] σ (.inl (some (.long (casV k v)))) σ := by
  intro nv sd g hb
  refine ⟨nv, sd, g, 0, hb, by decide, ?_⟩
  rcases (by omega : k = 0 ∨ k = 1 ∨ k = 2 ∨ k = 3 ∨ k = 4 ∨ k = 5 ∨ k = 6) with rfl | rfl | rfl | rfl | rfl | rfl | rfl
  · exact b74_0 (b74_44 (h_long hv) b74_48)
  · exact b74_0 (b74_49 (h_int hv) b74_53)
  · exact b74_0 (b74_55 (h_int hv) b74_59)
  · exact b74_0 (b74_62 (h_int hv) b74_66)
  · exact b74_0 (b74_69 (h_int hv) b74_73)
  · exact b74_0 (b74_76 (h_change O46 O47 hv) b74_86)
  · exact b74_0 (b74_89 (h_change O47 O46 hv) b74_99)
theorem x_castx {x1 : Int32} {a : Int64} (h : ¬ ∃ k, k ≤ 6 ∧ x1 = nI k) : Cl (d + 6) 74 [.ref 0, .int x1, .long a] σ (.inr 1) σ := by
  intro nv sd g hb
  refine ⟨nv, sd, g, 1, hb, by decide, b74_0 ?_⟩
  have hn : x1.toInt < 0 ∨ (6 : Int) < x1.toInt := not_nI (by decide) h
  rw [tsw_out hn]
  exact b74_100
end
