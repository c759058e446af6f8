/-! Format: rounding -/
def upQ (dir : Nat) (neg : Bool) (N D : Nat) : Prop := (dir = 0 ∧ (D < 2 * (N % D) ∨ (2 * (N % D) = D ∧ N / D % 2 = 1))) ∨ (N % D ≠ 0 ∧ ((dir = 1 ∧ neg = false) ∨ (dir = 2 ∧ neg = true)))
def rndQ (dir : Nat) (neg : Bool) (N D : Nat) : Nat := if (dir = 0 ∧ (D < 2 * (N % D) ∨ (2 * (N % D) = D ∧ N / D % 2 = 1))) ∨ (N % D ≠ 0 ∧ ((dir = 1 ∧ neg = false) ∨ (dir = 2 ∧ neg = true))) then N / D + 1 else N / D
theorem rndQ_up {dir : Nat} {neg : Bool} {N D : Nat} (h : upQ dir neg N D) : rndQ dir neg N D = N / D + 1 := if_pos h
theorem rndQ_no {dir : Nat} {neg : Bool} {N D : Nat} (h : ¬ upQ dir neg N D) : rndQ dir neg N D = N / D := if_neg h
theorem rndQ_scale {dir : Nat} {neg : Bool} {N D c : Nat} (hc : 0 < c) : rndQ dir neg (N * c) (D * c) = rndQ dir neg N D := by
  have e1 : N * c / (D * c) = N / D := Nat.mul_div_mul_right _ _ hc
  have e2 : N * c % (D * c) = N % D * c := Nat.mul_mod_mul_right _ _ _
  have hu : upQ dir neg (N * c) (D * c) ↔ upQ dir neg N D := by
    unfold upQ
    rw [e1, e2]
    have a1 : D * c < 2 * (N % D * c) ↔ D < 2 * (N % D) := by
      rw [← Nat.mul_assoc]
      exact Nat.mul_lt_mul_right hc
    have a2 : 2 * (N % D * c) = D * c ↔ 2 * (N % D) = D := by
      rw [← Nat.mul_assoc]
      exact Nat.mul_left_inj (by omega)
    have a3 : N % D * c ≠ 0 ↔ N % D ≠ 0 := by
      rw [Nat.mul_ne_zero_iff]
      omega
    rw [a1, a2, a3]
  by_cases c : upQ dir neg N D
  · rw [rndQ_up c, rndQ_up (hu.mpr c), e1]
  · rw [rndQ_no c, rndQ_no (fun z => c (hu.mp z)), e1]
theorem rndQ_le {dir : Nat} {neg : Bool} {N D : Nat} : rndQ dir neg N D ≤ N / D + 1 ∧ N / D ≤ rndQ dir neg N D := by
  by_cases c : upQ dir neg N D
  · rw [rndQ_up c]; omega
  · rw [rndQ_no c]; omega
theorem rndQ_exact {dir : Nat} {neg : Bool} {N : Nat} : rndQ dir neg N 1 = N := by
  rw [rndQ_no, Nat.div_one]
  unfold upQ
  rw [Nat.mod_one]
  omega
/-- what is dropped below a whole one with a rest -/
theorem drop_math {N D t : Nat} (hD : 0 < D) (ht : 0 < t) : N / (D * 2 ^ t) = N / D / 2 ^ t ∧ (D * 2 ^ t < 2 * (N % (D * 2 ^ t)) ↔ 2 ^ (t - 1) < N / D % 2 ^ t ∨ (N / D % 2 ^ t = 2 ^ (t - 1) ∧ N % D ≠ 0)) ∧ (2 * (N % (D * 2 ^ t)) = D * 2 ^ t ↔ N / D % 2 ^ t = 2 ^ (t - 1) ∧ N % D = 0) ∧ (N % (D * 2 ^ t) ≠ 0 ↔ N / D % 2 ^ t ≠ 0 ∨ N % D ≠ 0) := by
  obtain ⟨s, hs⟩ : ∃ s, s = N / D := ⟨_, rfl⟩
  obtain ⟨e, he⟩ : ∃ e, e = N % D := ⟨_, rfl⟩
  obtain ⟨low, hlow⟩ : ∃ low, low = s % 2 ^ t := ⟨_, rfl⟩
  have heD : e < D := by rw [he]; exact Nat.mod_lt _ hD
  have hr : N % (D * 2 ^ t) = low * D + e := by
    rw [Nat.mod_mul, ← hs, ← he, ← hlow, Nat.mul_comm D]
    omega
  have hh : 2 ^ t = 2 * 2 ^ (t - 1) := by rw [← Nat.pow_succ', show (t - 1).succ = t by omega]
  obtain ⟨H, hH⟩ : ∃ H, H = 2 ^ (t - 1) := ⟨_, rfl⟩
  rw [← hs, ← he, ← hlow, hr, hh, ← hH]
  refine ⟨by rw [← Nat.div_div_eq_div_mul, hs], ?_, ?_, ?_⟩
  · rw [show D * (2 * H) = 2 * (H * D) by rw [Nat.mul_left_comm, Nat.mul_comm D], Nat.mul_lt_mul_left (by decide)]
    constructor
    · intro h
      rcases Nat.lt_trichotomy low H with c | c | c
      · have : (low + 1) * D ≤ H * D := Nat.mul_le_mul_right _ c
        rw [Nat.add_mul] at this
        omega
      · subst c
        exact Or.inr ⟨rfl, by omega⟩
      · exact Or.inl c
    · rintro (c | ⟨c, c2⟩)
      · have : (H + 1) * D ≤ low * D := Nat.mul_le_mul_right _ c
        rw [Nat.add_mul] at this
        omega
      · subst c
        omega
  · rw [show D * (2 * H) = 2 * (H * D) by rw [Nat.mul_left_comm, Nat.mul_comm D], Nat.mul_right_inj (by decide)]
    constructor
    · intro h
      rcases Nat.lt_trichotomy low H with c | c | c
      · have : (low + 1) * D ≤ H * D := Nat.mul_le_mul_right _ c
        rw [Nat.add_mul] at this
        omega
      · subst c
        exact ⟨rfl, by omega⟩
      · have : (H + 1) * D ≤ low * D := Nat.mul_le_mul_right _ c
        rw [Nat.add_mul] at this
        omega
    · rintro ⟨c, c2⟩
      subst c
      omega
  · constructor
    · intro h
      by_cases c : low = 0
      · subst c
        rw [Nat.zero_mul] at h
        exact Or.inr (by omega)
      · exact Or.inl c
    · rintro (c | c)
      · have := Nat.mul_pos (Nat.pos_of_ne_zero c) hD
        omega
      · omega
section
variable {d : Nat} {S : St}
theorem f_drop0 {s t dir : Nat} {b r : Bool} (ht : t < 64) : Er (d + 1) 151 (0, ent 151 [.int (if b then 1 else 0), .long (lN s), .int (iZ (-(t : Int))), .int (if r then 1 else 0), .int (nI dir)], [], S) (.inl (some (.long (lN (s * 2 ^ t)))), S, 0) := by
  refine b151_0 (fun z => ?_) (fun _ => ?_)
  · have := (iZ_lt (a := 0) (by decide) (by decide) (by omega) (by omega)).mp z
    omega
  · have t1 := b151_4 (d := d) (x0 := if b then 1 else 0) (x1 := lN s) (x3 := iZ (-(t : Int))) (x4 := if r then 1 else 0) (x5 := nI dir) (σ := S)
    rw [iZ_neg, Int.neg_neg, iZ_N, shl_N t rfl ht] at t1
    exact t1
/-- what is kept of a number below 2^60 -/
theorem f_drop {N D t dir : Nat} {b : Bool} (hD : 0 < D) (ht : 0 < t) (ht2 : t < 2 ^ 30) (hs : N / D < 2 ^ 60) (hd : dir < 4) :
    Er (d + 1) 151 (0, ent 151 [.int (if b then 1 else 0), .long (lN (N / D)), .int (nI t), .int (if N % D ≠ 0 then 1 else 0), .int (nI dir)], [], S) (.inl (some (.long (lN (rndQ dir b N (D * 2 ^ t))))), S, 0) := by
  obtain ⟨m1, m2, m3, m4⟩ := drop_math (N := N) hD ht
  obtain ⟨s, hsv⟩ : ∃ s, s = N / D := ⟨_, rfl⟩
  rw [← hsv] at hs m1 m2 m3 m4 ⊢
  -- from 61 bits on the places do not matter
  obtain ⟨p, hp⟩ : ∃ p, p = min t 62 := ⟨_, rfl⟩
  have hp1 : 0 < p := by omega
  have hp62 : p ≤ 62 := by omega
  have hkept : s / 2 ^ p = s / 2 ^ t := by
    rcases Nat.lt_or_ge 62 t with c | c
    · have h1 : s < 2 ^ 62 := by omega
      have h2 : s < 2 ^ t := Nat.lt_trans h1 (Nat.pow_lt_pow_right (by decide) c)
      rw [show p = 62 by omega, Nat.div_eq_of_lt h1, Nat.div_eq_of_lt h2]
    · rw [show p = t by omega]
  have hbig : 62 < t → s < 2 ^ (p - 1) ∧ s < 2 ^ (t - 1) ∧ s % 2 ^ p = s ∧ s % 2 ^ t = s := by
    intro c
    have h1 : s < 2 ^ (p - 1) := by rw [show p - 1 = 61 by omega]; omega
    have h2 : s < 2 ^ (t - 1) := Nat.lt_of_lt_of_le (show s < 2 ^ 61 by omega) (Nat.pow_le_pow_right (by decide) (by omega))
    have h3 : s < 2 ^ p := by rw [show p = 62 by omega]; omega
    have h4 : s < 2 ^ t := Nat.lt_of_lt_of_le (show s < 2 ^ 61 by omega) (Nat.pow_le_pow_right (by decide) (by omega))
    exact ⟨h1, h2, Nat.mod_eq_of_lt h3, Nat.mod_eq_of_lt h4⟩
  have hlow1 : 2 ^ (p - 1) < s % 2 ^ p ↔ 2 ^ (t - 1) < s % 2 ^ t := by
    rcases Nat.lt_or_ge 62 t with c | c
    · obtain ⟨a1, a2, a3, a4⟩ := hbig c
      rw [a3, a4]; omega
    · rw [show p = t by omega]
  have hlow2 : s % 2 ^ p = 2 ^ (p - 1) ↔ s % 2 ^ t = 2 ^ (t - 1) := by
    rcases Nat.lt_or_ge 62 t with c | c
    · obtain ⟨a1, a2, a3, a4⟩ := hbig c
      rw [a3, a4]; omega
    · rw [show p = t by omega]
  have hlow3 : s % 2 ^ p = 0 ↔ s % 2 ^ t = 0 := by
    rcases Nat.lt_or_ge 62 t with c | c
    · obtain ⟨a1, a2, a3, a4⟩ := hbig c
      rw [a3, a4]
    · rw [show p = t by omega]
  rw [← hkept] at m1
  have ep : (if (62 : Int32) < nI t then (62 : Int32) else nI t) = nI p := by
    rw [hp]
    exact imin (y := 62) (by omega) (by decide)
  have ehalf : (1 : Int64) <<< ((nI p - 1).toInt64 &&& 63) = lN (2 ^ (p - 1)) := by
    rw [show nI p - 1 = nI (p - 1) from pk_sub (b := 1) hp1, show (1 : Int64) = lN 1 from rfl, shl_N (p - 1) rfl (by omega), Nat.one_mul]
  have e2p : 2 ^ (p - 1) * 2 = 2 ^ p := by rw [← Nat.pow_succ, show (p - 1).succ = p by omega]
  have elow : lN s &&& (lN (2 ^ (p - 1)) <<< ((1 : Int32).toInt64 &&& 63) - 1) = lN (s % 2 ^ p) := by
    rw [shl_N (s := 1) 1 rfl (by decide), Nat.pow_one, e2p, show lN (2 ^ p) - 1 = lN (2 ^ p - 1) from lN_sub (b := 1) (Nat.two_pow_pos p), and_N p rfl (by omega)]
  have ekept : ((lN s).toUInt64 >>> ((nI p).toInt64.toUInt64 &&& Int64.toUInt64 63)).toInt64 = lN (s / 2 ^ p) := ushr_N p (by omega) rfl (by omega)
  obtain ⟨kept, hk⟩ : ∃ kept, kept = s / 2 ^ p := ⟨_, rfl⟩
  obtain ⟨low, hl⟩ : ∃ low, low = s % 2 ^ p := ⟨_, rfl⟩
  obtain ⟨half, hh⟩ : ∃ half, half = 2 ^ (p - 1) := ⟨_, rfl⟩
  rw [← hl, ← hh] at hlow1 hlow2
  rw [← hl] at hlow3 elow
  rw [← hk] at m1 ekept
  rw [← hh] at ehalf elow
  have hk60 : kept < 2 ^ 60 := by rw [hk]; exact Nat.lt_of_le_of_lt (Nat.div_le_self _ _) hs
  have hl60 : low < 2 ^ 60 := by rw [hl]; exact Nat.lt_of_le_of_lt (Nat.mod_le _ _) hs
  have hh63 : half < 2 ^ 63 := by rw [hh]; exact Nat.pow_lt_pow_right (by decide) (by omega)
  rw [← hlow1, ← hlow2] at m2
  rw [← hlow2] at m3
  have m4' : N % (D * 2 ^ t) ≠ 0 ↔ low ≠ 0 ∨ N % D ≠ 0 := by rw [m4]; exact or_congr (not_congr hlow3.symm) Iff.rfl
  obtain ⟨rr, hrr⟩ : ∃ rr : Int32, rr = if N % D ≠ 0 then 1 else 0 := ⟨_, rfl⟩
  have hr0 : rr = 0 ↔ N % D = 0 := by
    rw [hrr]
    by_cases c : N % D = 0
    · simp [c]
    · simp [c]
  rw [← hrr]
  have fin : ∀ u : Int32, (u = 0 ∨ u = 1) → (u = 1 ↔ upQ dir b N (D * 2 ^ t)) → Er (d + 1) 151 (119, [some (.int (if b then 1 else 0)), some (.long (lN s)), none, some (.int (nI t)), some (.int rr), some (.int (nI dir)), some (.int (nI p)), some (.long (lN kept)), none, some (.long (lN half)), none, some (.long (lN low)), none, some (.int u)], [], S) (.inl (some (.long (lN (rndQ dir b N (D * 2 ^ t))))), S, 0) := by
    intro u hu hiff
    rcases hu with rfl | rfl
    · rw [rndQ_no (fun z => absurd (hiff.mpr z) (by decide)), m1]
      exact b151_119 (fun _ => b151_131 b151_133) (fun z => absurd rfl z)
    · rw [rndQ_up (hiff.mp rfl), m1, ← lN_1]
      exact b151_119 (fun z => absurd z (by decide)) (fun _ => b151_124 b151_133)
  refine b151_0 (fun _ => ?_) (fun z => absurd (nI_lt (a := 0) ht (by omega)) z)
  have e0 : nI dir = 0 ↔ dir = 0 := nI_eq (b := 0) (by omega) (by decide)
  refine b151_9 (fun z => ?_) (fun z => ?_)
  · rw [e0] at z
    rw [ep, ehalf, elow, ekept]
    have hup : upQ dir b N (D * 2 ^ t) ↔ (low ≠ 0 ∨ N % D ≠ 0) ∧ ((dir = 1 ∧ b = false) ∨ (dir = 2 ∧ b = true)) := by
      unfold upQ
      rw [m4']
      constructor
      · rintro (c | c)
        · exact absurd c.1 z
        · exact c
      · exact Or.inr
    have dirs : ∀ {u : Int32}, True → (low ≠ 0 ∨ N % D ≠ 0) → Er (d + 1) 151 (98, [some (.int (if b then 1 else 0)), some (.long (lN s)), none, some (.int (nI t)), some (.int rr), some (.int (nI dir)), some (.int (nI p)), some (.long (lN kept)), none, some (.long (lN half)), none, some (.long (lN low)), none, none], [], S) (.inl (some (.long (lN (rndQ dir b N (D * 2 ^ t))))), S, 0) := by
      intro _ _ hne
      cases b with
      | false =>
        have e1 : nI dir = 1 ↔ dir = 1 := nI_eq (b := 1) (by omega) (by decide)
        refine b151_98 (fun _ => b151_108 (b151_109 (fun w => ?_) (fun w => ?_))) (fun w => absurd rfl w)
        · rw [e1] at w
          exact b151_116 (b151_117 (fin 0 (Or.inl rfl) ⟨fun c => absurd c (by decide), fun c => absurd (hup.mp c).2 (by simp [w])⟩))
        · rw [e1] at w
          exact b151_112 (b151_117 (fin 1 (Or.inr rfl) ⟨fun _ => hup.mpr ⟨hne, by simp [w]⟩, fun _ => rfl⟩))
      | true =>
        have e1 : nI dir = 2 ↔ dir = 2 := nI_eq (b := 2) (by omega) (by decide)
        refine b151_98 (fun w => absurd w (by decide)) (fun _ => b151_104 (b151_109 (fun w => ?_) (fun w => ?_)))
        · rw [e1] at w
          exact b151_116 (b151_117 (fin 0 (Or.inl rfl) ⟨fun c => absurd c (by decide), fun c => absurd (hup.mp c).2 (by simp [w])⟩))
        · rw [e1] at w
          exact b151_112 (b151_117 (fin 1 (Or.inr rfl) ⟨fun _ => hup.mpr ⟨hne, by simp [w]⟩, fun _ => rfl⟩))
    refine b151_86 (fun w => dirs (u := 0) trivial (Or.inl (fun c => w (by rw [c]; rfl)))) (fun w => ?_)
    have hl0 : low = 0 := (lN_inj (b := 0) (by omega) (by decide)).mp w
    refine b151_93 (fun v => ?_) (fun v => dirs (u := 0) trivial (Or.inr (fun c => v (hr0.mpr c))))
    have hr := hr0.mp v
    exact b151_116 (b151_117 (fin 0 (Or.inl rfl) ⟨fun c => absurd c (by decide), fun c => by have := (hup.mp c).1; omega⟩))
  · rw [e0] at z
    rw [ep, ehalf, elow, ekept]
    have hup : upQ dir b N (D * 2 ^ t) ↔ half < low ∨ (low = half ∧ (N % D ≠ 0 ∨ kept % 2 = 1)) := by
      unfold upQ
      rw [m2, m3, m1, z]
      constructor
      · rintro (⟨_, (c | c) | c⟩ | c)
        · exact Or.inl c
        · exact Or.inr ⟨c.1, Or.inl c.2⟩
        · exact Or.inr ⟨c.1.1, Or.inr c.2⟩
        · omega
      · rintro (c | ⟨c, c2 | c2⟩)
        · exact Or.inl ⟨rfl, Or.inl (Or.inl c)⟩
        · exact Or.inl ⟨rfl, Or.inl (Or.inr ⟨c, c2⟩)⟩
        · by_cases w : N % D = 0
          · exact Or.inl ⟨rfl, Or.inr ⟨⟨c, w⟩, c2⟩⟩
          · exact Or.inl ⟨rfl, Or.inl (Or.inr ⟨c, w⟩)⟩
    refine b151_46 (fun w => ?_) (fun w => ?_)
    · rw [pk_lLT hh63 (by omega)] at w
      exact b151_76 (b151_81 (fin 1 (Or.inr rfl) ⟨fun _ => hup.mpr (Or.inl w), fun _ => rfl⟩))
    · rw [pk_lLT hh63 (by omega)] at w
      refine b151_54 (fun v => ?_) (fun v => ?_)
      · have hne : low ≠ half := fun c => v (by rw [c])
        exact b151_80 (b151_81 (fin 0 (Or.inl rfl) ⟨fun c => absurd c (by decide), fun c => by have := hup.mp c; omega⟩))
      · have heq : low = half := (lN_inj (by omega) (by omega)).mp v
        refine b151_62 (fun u => ?_) (fun u => ?_)
        · exact b151_76 (b151_81 (fin 1 (Or.inr rfl) ⟨fun _ => hup.mpr (Or.inr ⟨heq, Or.inl (fun c => u (hr0.mpr c))⟩), fun _ => rfl⟩))
        · have hr := hr0.mp u
          have eb : lN kept &&& (1 : Int64) = lN (kept % 2) := and_N (m := 1) 1 rfl (by decide)
          refine b151_67 (fun y => ?_) (fun y => ?_)
          · rw [eb] at y
            have : kept % 2 = 0 := (lN_inj (b := 0) (by omega) (by decide)).mp y
            exact b151_80 (b151_81 (fin 0 (Or.inl rfl) ⟨fun c => absurd c (by decide), fun c => by have := hup.mp c; omega⟩))
          · rw [eb] at y
            have : kept % 2 = 1 := by
              have : kept % 2 ≠ 0 := fun c => y (by rw [c]; rfl)
              omega
            exact b151_76 (b151_81 (fin 1 (Or.inr rfl) ⟨fun _ => hup.mpr (Or.inr ⟨heq, Or.inr this⟩), fun _ => rfl⟩))
end
