/-! Machine: what it makes of doubles -/
def nanD (v : Nat) : Prop := 9218868437227405312 < fsz 46 v
def infN : Nat := 9218868437227405312
theorem inf46 : fe 46 * 2 ^ fb 46 = infN := by decide
def ew (x : Nat) (b : Bool) (s : Nat) (z : Int) : Nat := (if s = 0 then 0 else encV x b 0 (s * 2 ^ (z + fz x).toNat) (2 ^ (-(z + fz x)).toNat)) + sbit x b
def sgB (v : Nat) : Bool := decide (fsg 46 v = 1)
theorem fsg_b (v : Nat) : nI (fsg 46 v) = if sgB v then 1 else 0 := by
  have : fsg 46 v < 2 := Nat.mod_lt _ (by decide)
  unfold sgB
  rcases (by omega : fsg 46 v = 0 ∨ fsg 46 v = 1) with c | c <;> rw [c] <;> rfl
theorem NaN46 : efl 46 3 = lN 9221120237041090560 := rfl
section
variable {d v w : Nat} {S : St}
theorem h_nan (hv : v < 2 ^ 64) : Er (d + 2) 147 (0, ent 147 [.ref 46, .long (lN v)], [], S) (.inl (some (.int (if infN < fsz 46 v then 1 else 0))), S, 0) := f_nan O46 hv
theorem h_fin (hv : v < 2 ^ 64) : Er (d + 2) 140 (0, ent 140 [.ref 46, .long (lN v)], [], S) (.inl (some (.int (if fsz 46 v < infN then 1 else 0))), S, 0) := f_fin O46 hv
theorem h_sign (hv : v < 2 ^ 64) : Er (d + 1) 145 (0, ent 145 [.ref 46, .long (lN v)], [], S) (.inl (some (.int (if sgB v then 1 else 0))), S, 0) := by
  have t := f_hasSign (d := d) (S := S) O46 hv
  rw [fsg_b] at t
  exact t
theorem h_one (hv : v < 2 ^ 64) (hw : w < 2 ^ 64) : Er (d + 3) 153 (0, ent 153 [.long (lN v), .long (lN w)], [], S) (.inl (some (.int (if infN < fsz 46 v ∨ infN < fsz 46 w then 1 else 0))), S, 0) := by
  refine b153_0 O46 (h_nan hv) ?_
  by_cases a : infN < fsz 46 v
  · rw [if_pos a, if_pos (Or.inl a)]
    exact b153_7 (fun _ => b153_20 (b153_25 rfl)) (fun z => absurd z (by decide))
  · rw [if_neg a]
    refine b153_7 (fun z => absurd rfl z) (fun _ => b153_10 O46 (h_nan hw) ?_)
    by_cases b : infN < fsz 46 w
    · rw [if_pos b, if_pos (Or.inr b)]
      exact b153_17 (fun z => absurd z (by decide)) (fun _ => b153_20 (b153_25 rfl))
    · rw [if_neg b, if_neg (fun c => c.elim a b)]
      exact b153_17 (fun _ => b153_24 (b153_25 rfl)) (fun z => absurd rfl z)
def rankZ (v : Nat) : Int := if sgB v then -(fsz 46 v : Int) - 1 else fsz 46 v
theorem rankZ_rng (v : Nat) : -2 ^ 63 ≤ rankZ v ∧ rankZ v < 2 ^ 63 := by
  have := fsz_63 (n := v) O46
  unfold rankZ
  split <;> omega
theorem h_rank (hv : v < 2 ^ 64) : Er (d + 2) 157 (0, ent 157 [.long (lN v)], [], S) (.inl (some (.long (lZ (rankZ v)))), S, 0) := by
  refine b157_0 O46 (f_size O46 hv) (b157_7 O46 (h_sign hv) ?_)
  unfold rankZ
  cases sgB v with
  | false =>
    refine b157_15 (fun _ => b157_25 ?_) (fun z => absurd rfl z)
    have : lZ (if false = true then -(fsz 46 v : Int) - 1 else fsz 46 v) = lN (fsz 46 v) := lZ_N _
    rw [this]
    exact b157_26
  | true =>
    refine b157_15 (fun z => absurd z (by decide)) (fun _ => b157_18 ?_)
    have : lZ (if true = true then -(fsz 46 v : Int) - 1 else fsz 46 v) = -lN (fsz 46 v) - 1 := by
      rw [if_pos rfl, ← lZ_N, lZ_neg, show (1 : Int64) = lZ 1 from rfl, lZ_sub]
    rw [this]
    exact b157_26
def grV (v w : Nat) : Nat := if infN < fsz 46 v ∨ infN < fsz 46 w then 9221120237041090560 else if rankZ v < rankZ w then w else v
def leV (v w : Nat) : Nat := if infN < fsz 46 v ∨ infN < fsz 46 w then 9221120237041090560 else if rankZ w < rankZ v then w else v
theorem h_greater (hv : v < 2 ^ 64) (hw : w < 2 ^ 64) : Er (d + 4) 156 (0, ent 156 [.long (lN v), .long (lN w)], [], S) (.inl (some (.long (lN (grV v w)))), S, 0) := by
  have r1 := rankZ_rng v
  have r2 := rankZ_rng w
  refine b156_0 (h_one hv hw) ?_
  unfold grV
  by_cases a : infN < fsz 46 v ∨ infN < fsz 46 w
  · rw [if_pos a, if_pos a]
    exact b156_5 (fun z => absurd z (by decide)) (fun _ => b156_8 O46)
  · rw [if_neg a, if_neg a]
    refine b156_5 (fun _ => b156_15 (h_rank hv) (b156_19 (h_rank hw) (b156_23 (fun z => ?_) (fun z => ?_)))) (fun z => absurd rfl z)
    · rw [lZ_lt r1.1 r1.2 r2.1 r2.2] at z
      rw [if_pos z]
      exact b156_31 b156_32
    · rw [lZ_lt r1.1 r1.2 r2.1 r2.2] at z
      rw [if_neg z]
      exact b156_27 b156_32
theorem h_lesser (hv : v < 2 ^ 64) (hw : w < 2 ^ 64) : Er (d + 4) 158 (0, ent 158 [.long (lN v), .long (lN w)], [], S) (.inl (some (.long (lN (leV v w)))), S, 0) := by
  have r1 := rankZ_rng v
  have r2 := rankZ_rng w
  refine b158_0 (h_one hv hw) ?_
  unfold leV
  by_cases a : infN < fsz 46 v ∨ infN < fsz 46 w
  · rw [if_pos a, if_pos a]
    exact b158_5 (fun z => absurd z (by decide)) (fun _ => b158_8 O46)
  · rw [if_neg a, if_neg a]
    refine b158_5 (fun _ => b158_15 (h_rank hv) (b158_19 (h_rank hw) (b158_23 (fun z => ?_) (fun z => ?_)))) (fun z => absurd rfl z)
    · rw [lZ_lt r2.1 r2.2 r1.1 r1.2] at z
      rw [if_pos z]
      exact b158_31 b158_32
    · rw [lZ_lt r2.1 r2.2 r1.1 r1.2] at z
      rw [if_neg z]
      exact b158_27 b158_32
def wsgV (v w : Nat) : Nat := if infN < fsz 46 v then 9221120237041090560 else fsz 46 v + sbit 46 (sgB w)
theorem h_with (hv : v < 2 ^ 64) (hw : w < 2 ^ 64) : Er (d + 3) 159 (0, ent 159 [.long (lN v), .long (lN w)], [], S) (.inl (some (.long (lN (wsgV v w)))), S, 0) := by
  refine b159_0 O46 (h_nan hv) ?_
  unfold wsgV
  by_cases a : infN < fsz 46 v
  · rw [if_pos a, if_pos a]
    exact b159_11 (fun z => absurd z (by decide)) (fun _ => b159_14 O46 b159_39)
  · rw [if_neg a, if_neg a]
    have t := f_signed (d := d + 1) (x := 46) (n := fsz 46 v) (S := S) (b := sgB w) O46 (fsz_lt 46 v)
    exact b159_11 (fun _ => b159_22 O46 (h_sign hw) (b159_30 O46 (f_size O46 hv) (b159_36 O46 t b159_39))) (fun z => absurd rfl z)
def naV (v : Nat) : Int64 := if infN < fsz 46 v then lN 9221120237041090560 else if fsz 46 v = 0 then 1 else if sgB v then lN v - 1 else if v = infN then lN v else lN v + 1
theorem h_next (hv : v < 2 ^ 64) : Er (d + 3) 160 (0, ent 160 [.long (lN v)], [], S) (.inl (some (.long (naV v))), S, 0) := by
  refine b160_0 O46 (h_nan hv) ?_
  unfold naV
  by_cases a : infN < fsz 46 v
  · rw [if_pos a, if_pos a]
    exact b160_9 (fun z => absurd z (by decide)) (fun _ => b160_12 O46)
  · rw [if_neg a, if_neg a]
    refine b160_9 (fun _ => b160_17 O46 (f_size O46 hv) (b160_22 (fun z => ?_) (fun z => ?_))) (fun z => absurd rfl z)
    · have h0 : ¬ fsz 46 v = 0 := fun c => z (by rw [c]; rfl)
      rw [if_neg h0]
      refine b160_29 O46 (h_sign hv) ?_
      cases sgB v with
      | true => exact b160_34 (fun z => absurd z (by decide)) (fun _ => b160_37)
      | false =>
        refine b160_34 (fun _ => b160_41 O46 (fun y => ?_) (fun y => ?_)) (fun z => absurd rfl z)
        · have : ¬ v = infN := fun c => y (by rw [c]; rfl)
          rw [if_neg (by simp), if_neg this]
          exact b160_54 b160_57
        · have : v = infN := (lN_inj hv (by decide)).mp y
          rw [if_neg (by simp), if_pos this]
          exact b160_50 b160_57
    · have h0 : fsz 46 v = 0 := (lN_inj (b := 0) (Nat.lt_trans (fsz_63 O46) (by decide)) (by decide)).mp z
      rw [if_pos h0]
      exact b160_27
def stV (v : Nat) : Nat := if infN < fsz 46 v then 9221120237041090560 else if fsz 46 v < infN then ew 46 false 1 (fsc 46 v) else infN
theorem h_step (hv : v < 2 ^ 64) : Er (d + 4) 161 (0, ent 161 [.long (lN v)], [], S) (.inl (some (.long (lN (stV v)))), S, 0) := by
  have hz := fsc_rng (n := v)
  refine b161_0 O46 (h_nan hv) ?_
  unfold stV
  by_cases a : infN < fsz 46 v
  · rw [if_pos a, if_pos a]
    exact b161_9 (fun z => absurd z (by decide)) (fun _ => b161_12 O46)
  · rw [if_neg a, if_neg a]
    refine b161_9 (fun _ => b161_17 O46 (h_fin hv) ?_) (fun z => absurd rfl z)
    by_cases b : fsz 46 v < infN
    · rw [if_pos b, if_pos b]
      have t := f_enc1 (d := d + 1) (S := S) (x := 46) (s := 1) (dir := 0) (b := false) (z := fsc 46 v) O46 (by decide) (by omega) (by omega) (by decide)
      exact b161_22 (fun _ => b161_30 O46 (f_scale O46 hv) (b161_38 O46 t b161_43)) (fun z => absurd z (by decide))
    · rw [if_neg b, if_neg b]
      exact b161_22 (fun z => absurd rfl z) (fun _ => b161_25 O46)
def clN (w : Int64) : Int := max (-3000) (min w.toInt 3000)
def twV (v : Nat) (w : Int64) : Nat := if infN < fsz 46 v then 9221120237041090560 else if fsz 46 v < infN then ew 46 (sgB v) (fsi 46 v) (fsc 46 v + clN w) else v
theorem h_two {w : Int64} (hv : v < 2 ^ 64) : Er (d + 4) 162 (0, ent 162 [.long (lN v), .long w], [], S) (.inl (some (.long (lN (twV v w)))), S, 0) := by
  have hz := fsc_rng (n := v)
  refine b162_0 O46 (h_nan hv) ?_
  unfold twV
  by_cases a : infN < fsz 46 v
  · rw [if_pos a, if_pos a]
    exact b162_11 (fun z => absurd z (by decide)) (fun _ => b162_14 O46)
  · rw [if_neg a, if_neg a]
    refine b162_11 (fun _ => b162_20 O46 (h_fin hv) ?_) (fun z => absurd rfl z)
    by_cases b : fsz 46 v < infN
    · rw [if_pos b, if_pos b]
      have hc : -3000 ≤ clN w ∧ clN w ≤ 3000 := by unfold clN; omega
      have ec : (if (if (3000 : Int64) < w then (3000 : Int64) else w) < (-3000 : Int64) then (-3000 : Int64) else (if (3000 : Int64) < w then (3000 : Int64) else w)).toInt32 = iZ (clN w) := by
        have t1 : (3000 : Int64).toInt = 3000 := rfl
        have t2 : (-3000 : Int64).toInt = -3000 := rfl
        have e1 : (if (3000 : Int64) < w then (3000 : Int64) else w) = lZ (min w.toInt 3000) := by
          by_cases c : (3000 : Int64) < w
          · rw [if_pos c]
            rw [l_lt, t1] at c
            rw [show min w.toInt 3000 = 3000 by omega]
            rfl
          · rw [if_neg c]
            rw [l_lt, t1] at c
            rw [show min w.toInt 3000 = w.toInt by omega, lZ_s]
        have h1 := Int64.le_toInt w
        rw [e1]
        have e2 : (if lZ (min w.toInt 3000) < (-3000 : Int64) then (-3000 : Int64) else lZ (min w.toInt 3000)) = lZ (clN w) := by
          unfold clN
          by_cases c : lZ (min w.toInt 3000) < (-3000 : Int64)
          · rw [if_pos c]
            rw [l_lt, t2, lZ_t (by omega) (by omega)] at c
            rw [show max (-3000) (min w.toInt 3000) = -3000 by omega]
            rfl
          · rw [if_neg c]
            rw [l_lt, t2, lZ_t (by omega) (by omega)] at c
            rw [show max (-3000) (min w.toInt 3000) = min w.toInt 3000 by omega]
        rw [e2, lZ_i]
      have hm := fsi_53 (n := v)
      have t := f_enc1 (d := d + 1) (S := S) (x := 46) (s := fsi 46 v) (dir := 0) (b := sgB v) (z := fsc 46 v + clN w) O46 (by omega) (by omega) (by omega) (by decide)
      refine b162_26 (fun _ => b162_31 O46 (h_sign hv) (b162_55 O46 (f_sig O46 hv) (b162_61 O46 (f_scale O46 hv) (b162_67 O46 ?_ b162_75)))) (fun z => absurd z (by decide))
      rw [ec, iZ_add]
      exact t
    · rw [if_neg b, if_neg b]
      exact b162_26 (fun z => absurd rfl z) (fun _ => b162_29)
def reV (v w : Nat) : Int := if infN < fsz 46 v ∨ infN < fsz 46 w then 4 else if fsz 46 v = 0 ∧ fsz 46 w = 0 then 2 else 2 + cz (rankZ v) (rankZ w)
theorem h_rel (hv : v < 2 ^ 64) (hw : w < 2 ^ 64) : Er (d + 4) 163 (0, ent 163 [.long (lN v), .long (lN w)], [], S) (.inl (some (.long (lZ (reV v w)))), S, 0) := by
  have r1 := rankZ_rng v
  have r2 := rankZ_rng w
  refine b163_0 (h_one hv hw) ?_
  unfold reV
  by_cases a : infN < fsz 46 v ∨ infN < fsz 46 w
  · rw [if_pos a, if_pos a]
    exact b163_10 (fun z => absurd z (by decide)) (fun _ => b163_13)
  · rw [if_neg a, if_neg a]
    refine b163_10 (fun _ => b163_17 O46 (f_size O46 hv) ?_) (fun z => absurd rfl z)
    have rest : ∀ {c : Int}, c = 2 + cz (rankZ v) (rankZ w) → Er (d + 4) 163 (43, [some (.long (lN v)), none, some (.long (lN w)), none, some (.ref 46)], [], S) (.inl (some (.long (lZ c))), S, 0) := by
      intro c hc
      have t := c_compare (d := d + 2) (x := lZ (rankZ v)) (y := lZ (rankZ w)) (σ := S)
      rw [lZ_t r1.1 r1.2, lZ_t r2.1 r2.2, cmpI_cz] at t
      have hcz : -1 ≤ cz (rankZ v) (rankZ w) ∧ cz (rankZ v) (rankZ w) ≤ 1 := by
        unfold cz
        split
        · omega
        · split <;> omega
      have e : lZ c = (2 : Int64) + (iZ (cz (rankZ v) (rankZ w))).toInt64 := by
        rw [iZ_l (by omega) (by omega), show (2 : Int64) = lZ 2 from rfl, lZ_add, hc]
      rw [e]
      exact b163_43 (h_rank hv) (b163_50 (h_rank hw) (b163_54 t b163_57))
    refine b163_23 (fun z => ?_) (fun z => ?_)
    · have h0 : ¬ fsz 46 v = 0 := fun c => z (by rw [c]; rfl)
      rw [if_neg (fun c => h0 c.1)]
      exact rest rfl
    · have h0 : fsz 46 v = 0 := (lN_inj (b := 0) (Nat.lt_trans (fsz_63 O46) (by decide)) (by decide)).mp z
      refine b163_28 O46 (f_size O46 hw) (b163_34 (fun y => ?_) (fun y => ?_))
      · have h1 : ¬ fsz 46 w = 0 := fun c => y (by rw [c]; rfl)
        rw [if_neg (fun c => h1 c.2)]
        exact rest rfl
      · have h1 : fsz 46 w = 0 := (lN_inj (b := 0) (Nat.lt_trans (fsz_63 O46) (by decide)) (by decide)).mp y
        rw [if_pos ⟨h0, h1⟩]
        exact b163_39
def twhV (v dir : Nat) : Nat := if infN < fsz 46 v then 9221120237041090560 else if 0 ≤ fsc 46 v then v else ew 46 (sgB v) (rndQ dir (sgB v) (fsi 46 v) (2 ^ (-(fsc 46 v)).toNat)) 0
theorem h_whole {dir : Nat} (hv : v < 2 ^ 64) (hd : dir < 4) : Er (d + 4) 155 (0, ent 155 [.long (lN v), .int (nI dir)], [], S) (.inl (some (.long (lN (twhV v dir)))), S, 0) := by
  have hz := fsc_rng (n := v)
  have hm := fsi_53 (n := v)
  refine b155_0 O46 (h_nan hv) ?_
  unfold twhV
  by_cases a : infN < fsz 46 v
  · rw [if_pos a, if_pos a]
    exact b155_9 (fun z => absurd z (by decide)) (fun _ => b155_12 O46)
  · rw [if_neg a, if_neg a]
    refine b155_9 (fun _ => b155_17 O46 (f_scale O46 hv) (b155_22 (fun z => ?_) (fun z => ?_))) (fun z => absurd rfl z)
    · rw [iZ0, iZ_lt (by omega) (by omega) (by decide) (by decide)] at z
      rw [if_neg (by omega)]
      obtain ⟨t, ht⟩ : ∃ t : Nat, t = (-(fsc 46 v)).toNat := ⟨_, rfl⟩
      have hr := (rndQ_le (dir := dir) (neg := sgB v) (N := fsi 46 v) (D := 2 ^ t)).1
      have hr2 : fsi 46 v / 2 ^ t ≤ fsi 46 v := Nat.div_le_self _ _
      rw [← ht]
      have t1 := f_drop (d := d + 2) (S := S) (N := fsi 46 v) (D := 1) (t := t) (dir := dir) (b := sgB v) (by decide) (by omega) (by omega) (by rw [Nat.div_one]; omega) hd
      rw [Nat.div_one, Nat.mod_one, Nat.one_mul] at t1
      have t2 := f_enc1 (d := d + 1) (S := S) (x := 46) (s := rndQ dir (sgB v) (fsi 46 v) (2 ^ t)) (dir := 0) (b := sgB v) (z := 0) O46 (by omega) (by decide) (by decide) (by decide)
      refine b155_31 O46 (h_sign hv) (b155_36 O46 (f_sig O46 hv) (b155_45 (r := lN (rndQ dir (sgB v) (fsi 46 v) (2 ^ t))) (σ2 := S) ?_ (b155_53 O46 t2 b155_66)))
      rw [iZ_neg, show -(fsc 46 v) = (t : Int) by omega, iZ_N]
      exact t1
    · rw [iZ0, iZ_lt (by omega) (by omega) (by decide) (by decide)] at z
      rw [if_pos (by omega)]
      exact b155_29
end
