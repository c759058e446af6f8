/-! the reference: registers -/
def wf (rv : Nat → Nat) : Nat → Int64 := fun j => dgs (rv (j / 64)) (j % 64)
def MS (σ : St) (rv : Nat → Nat) : St := sar σ 44 (wf rv)
def BM (rv : Nat → Nat) : Prop := ∀ r, rv r < Bp 64
theorem BM_up {rv : Nat → Nat} {i v : Nat} (h : BM rv) (hv : v < Bp 64) : BM (up rv i v) := by
  intro j
  unfold up
  by_cases g : j = i
  · rw [if_pos g]; exact hv
  · rw [if_neg g]; exact h j
theorem f14 : fr 1 4 = 44 := rfl
theorem f13 : fr 1 3 = 43 := rfl
theorem f12 : fr 1 2 = 42 := rfl
theorem k1 : (1 : Nat) < 24 ∧ kls 1 = 5 := ⟨by decide, rfl⟩
theorem ix (r k : Nat) : (64 : Int32) * nI r + nI k = nI (64 * r + k) := by rw [show (64 : Int32) = nI 64 from rfl, pk_mul, nI_add]
theorem isL44 : isL 44 := by unfold isL; omega
theorem inM {r k : Nat} (hr : r < 16) (hk : k < 64) : isL (fr 1 4) ∧ vp_in ((64 : Int32) * nI r + nI k) (ale (fr 1 4)) := ⟨isL44, by rw [ix]; exact vp_in_nI (by show 64 * r + k < 1024; omega) (by decide)⟩
theorem MS_44 (σ : St) (rv : Nat → Nat) : gal (MS σ rv) 44 = wf rv := by
  unfold MS
  rw [gal_sar, if_pos rfl]
theorem rdM {σ : St} {rv : Nat → Nat} {r k : Nat} (hr : r < 16) (hk : k < 64) : gal (MS σ rv) (fr 1 4) ((64 : Int32) * nI r + nI k).toNatClampNeg = lN (dg (rv r) k) := by
  rw [ix, nI_32 (by omega), f14, MS_44]
  show lN (dg (rv ((64 * r + k) / 64)) ((64 * r + k) % 64)) = _
  rw [show (64 * r + k) / 64 = r by omega, show (64 * r + k) % 64 = k by omega]
theorem wrM {σ : St} {rv : Nat → Nat} {r k x : Nat} (hr : r < 16) (hk : k < 64) (hx : x < 4294967296) : sal (MS σ rv) (fr 1 4) ((64 : Int32) * nI r + nI k).toNatClampNeg (lN x) = MS σ (up rv r (sd (rv r) k x)) := by
  rw [ix, nI_32 (by omega), f14]
  unfold sal
  rw [MS_44]
  unfold MS
  rw [sar_sar]
  congr 1
  funext j
  unfold vp_updL wf up
  by_cases c : j = 64 * r + k
  · subst c
    rw [if_pos rfl, show (64 * r + k) / 64 = r by omega, show (64 * r + k) % 64 = k by omega, if_pos rfl]
    show lN x = lN (dg _ _)
    rw [sd_dg _ _ hx, if_pos rfl]
  · rw [if_neg c]
    by_cases c2 : j / 64 = r
    · rw [if_pos c2, c2]
      show lN (dg _ _) = lN (dg _ _)
      rw [sd_dg _ _ hx, if_neg (by omega)]
    · rw [if_neg c2]
theorem nI_0' : (0 : Int32) = nI 0 := rfl
section
variable {d r a b c : Nat} {σ : St} {rv : Nat → Nat}
theorem m_zero (hr : r < 16) (hB : BM rv) : Er (d + 1) 79 (0, ent 79 [.ref 1, .int (nI r)], [], MS σ rv) (.inl none, MS σ (up rv r 0), 0) := by
  have loop : ∀ n k U, k + n = 64 → U < Bp 64 → U % Bp k = 0 → Er (d + 1) 79 (2, [some (.ref 1), some (.int (nI r)), some (.int (nI k))], [], MS σ (up rv r U)) (.inl none, MS σ (up rv r 0), 0) := by
    intro n
    induction n with
    | zero =>
      intro k U hk hU hz
      rw [Nat.add_zero] at hk
      subst hk
      rw [Bp_mod hU] at hz
      subst hz
      exact b79_2 (fun _ => b79_26) (fun q => absurd (Int32.le_refl _) q)
    | succ n ih =>
      intro k U hk hU hz
      refine b79_2 (fun q => absurd q (nI_ge (b := 64) (by omega) (by decide))) (fun _ => b79_8 k1 (inM hr (by omega)) ?_)
      have w := wrM (σ := σ) (rv := up rv r U) (r := r) (k := k) (x := 0) hr (by omega) (by decide)
      rw [up_s, up_up] at w
      rw [show (0 : Int64) = lN 0 from rfl, w, nI_1]
      refine ih (k + 1) _ (by omega) (sd_lt hU (by omega) (by decide)) ?_
      rw [dg_split, sd_mod, sd_dg _ _ (by decide), if_pos rfl, hz, Nat.zero_mul]
  have := loop 64 0 (rv r) (by omega) (hB r) (by rw [Bp_0, Nat.mod_one])
  rw [up_self] at this
  exact b79_0 this
theorem m_set {n : Nat} (hr : r < 16) (hB : BM rv) (hn : n < 2 ^ 64) : Er (d + 2) 78 (0, ent 78 [.ref 1, .int (nI r), .long (lN n)], [], MS σ rv) (.inl none, MS σ (up rv r n), 0) := by
  refine b78_0 k1 (m_zero hr hB) ?_
  have hx : n % 4294967296 < 4294967296 := Nat.mod_lt _ (by decide)
  have hy : n / 4294967296 < 4294967296 := by omega
  have e0 : (64 : Int32) * nI r = (64 : Int32) * nI r + nI 0 := by rw [ix, show (64 : Int32) = nI 64 from rfl, pk_mul, Nat.add_zero]
  have t := b78_5 (d := d + 1) (x0 := 1) (x1 := nI r) (x2 := lN n) (σ := MS σ (up rv r 0)) k1 (by rw [e0]; exact inM hr (by decide)) (inM (k := 1) hr (by decide))
  have w1 := wrM (σ := σ) (rv := up rv r 0) (r := r) (k := 0) hr (by decide) hx
  rw [up_s, up_up] at w1
  have w2 := wrM (σ := σ) (rv := up rv r (sd 0 0 (n % 4294967296))) (r := r) (k := 1) hr (by decide) hy
  rw [up_s, up_up] at w2
  rw [m32, ushr32 hn] at t
  have e : sd (sd 0 0 (n % 4294967296)) 1 (n / 4294967296) = n := by
    unfold sd
    rw [Bp_0, Bp_1, show Bp (1 + 1) = 18446744073709551616 from rfl]
    omega
  rw [e] at w2
  rw [e0] at t
  rw [w1, ← e0, show (1 : Int32) = nI 1 from rfl, w2] at t
  exact t
theorem m_copy (ha : a < 16) (hb : b < 16) (hne : a ≠ b) (hB : BM rv) : Er (d + 1) 83 (0, ent 83 [.ref 1, .int (nI a), .int (nI b)], [], MS σ rv) (.inl none, MS σ (up rv b (rv a)), 0) := by
  have loop : ∀ n k U, k + n = 64 → U < Bp 64 → U % Bp k = rv a % Bp k → Er (d + 1) 83 (2, [some (.ref 1), some (.int (nI a)), some (.int (nI b)), some (.int (nI k))], [], MS σ (up rv b U)) (.inl none, MS σ (up rv b (rv a)), 0) := by
    intro n
    induction n with
    | zero =>
      intro k U hk hU hz
      rw [Nat.add_zero] at hk
      subst hk
      rw [Bp_mod hU, Bp_mod (hB a)] at hz
      subst hz
      exact b83_2 (fun _ => b83_36) (fun q => absurd (Int32.le_refl _) q)
    | succ n ih =>
      intro k U hk hU hz
      refine b83_2 (fun q => absurd q (nI_ge (b := 64) (by omega) (by decide))) (fun _ => b83_8 k1 (inM ha (by omega)) (inM hb (by omega)) ?_)
      have w := wrM (σ := σ) (rv := up rv b U) (r := b) (k := k) (x := dg (rv a) k) hb (by omega) (dg_lt _ _)
      rw [up_s, up_up] at w
      rw [rdM ha (by omega), up_n hne, w, nI_1]
      refine ih (k + 1) _ (by omega) (sd_lt hU (by omega) (dg_lt _ _)) ?_
      rw [dg_split, sd_mod, sd_dg _ _ (dg_lt _ _), if_pos rfl, hz, ← dg_split]
  have := loop 64 0 (rv b) (by omega) (hB b) (by rw [Bp_0, Nat.mod_one, Nat.mod_one])
  rw [up_self] at this
  exact b83_0 this
theorem m_swap (ha : a < 16) (hb : b < 16) (hne : a ≠ b) (hB : BM rv) : Er (d + 1) 87 (0, ent 87 [.ref 1, .int (nI a), .int (nI b)], [], MS σ rv) (.inl none, MS σ (up (up rv a (rv b)) b (rv a)), 0) := by
  have loop : ∀ n k U V, k + n = 64 → U < Bp 64 → V < Bp 64 → U % Bp k = rv b % Bp k → V % Bp k = rv a % Bp k → U / Bp k = rv a / Bp k → V / Bp k = rv b / Bp k → ∀ o4 o5, Er (d + 1) 87 (2, [some (.ref 1), some (.int (nI a)), some (.int (nI b)), some (.int (nI k)), o4, o5], [], MS σ (up (up rv a U) b V)) (.inl none, MS σ (up (up rv a (rv b)) b (rv a)), 0) := by
    intro n
    induction n with
    | zero =>
      intro k U V hk hU hV h1 h2 h3 h4 o4 o5
      rw [Nat.add_zero] at hk
      subst hk
      rw [Bp_mod hU, Bp_mod (hB b)] at h1
      rw [Bp_mod hV, Bp_mod (hB a)] at h2
      subst h1 h2
      exact b87_2 (fun _ => b87_62) (fun q => absurd (Int32.le_refl _) q)
    | succ n ih =>
      intro k U V hk hU hV h1 h2 h3 h4 o4 o5
      refine b87_2 (fun q => absurd q (nI_ge (b := 64) (by omega) (by decide))) (fun _ => b87_8 k1 (inM ha (by omega)) (inM hb (by omega)) ?_)
      have dU : dg U k = dg (rv a) k := by rw [dg_Bp, dg_Bp, h3]
      have dV : dg V k = dg (rv b) k := by rw [dg_Bp, dg_Bp, h4]
      have r1 : up (up rv a U) b V a = U := by rw [up_n hne, up_s]
      have r2 : up (up rv a U) b V b = V := up_s _ _ _
      have w1 := wrM (σ := σ) (rv := up (up rv a U) b V) (r := a) (k := k) (x := dg (rv b) k) ha (by omega) (dg_lt _ _)
      rw [r1] at w1
      have cm : up (up (up rv a U) b V) a (sd U k (dg (rv b) k)) = up (up rv a (sd U k (dg (rv b) k))) b V := by
        funext j
        unfold up
        by_cases c1 : j = a
        · rw [if_pos c1, if_neg (by omega), if_pos c1]
        · rw [if_neg c1]
          by_cases c2 : j = b
          · rw [if_pos c2, if_pos c2]
          · rw [if_neg c2, if_neg c2, if_neg c1, if_neg c1]
      rw [cm] at w1
      have w2 := wrM (σ := σ) (rv := up (up rv a (sd U k (dg (rv b) k))) b V) (r := b) (k := k) (x := dg (rv a) k) hb (by omega) (dg_lt _ _)
      rw [up_s, up_up] at w2
      rw [rdM ha (by omega), rdM hb (by omega), r1, r2, dU, dV, w1, w2, nI_1]
      refine ih (k + 1) _ _ (by omega) (sd_lt hU (by omega) (dg_lt _ _)) (sd_lt hV (by omega) (dg_lt _ _)) ?_ ?_ ?_ ?_ _ _
      · rw [dg_split, sd_mod, sd_dg _ _ (dg_lt _ _), if_pos rfl, h1, ← dg_split]
      · rw [dg_split, sd_mod, sd_dg _ _ (dg_lt _ _), if_pos rfl, h2, ← dg_split]
      · rw [sd_div (Nat.lt_succ_self k) (dg_lt _ _), Bp_succ, ← Nat.div_div_eq_div_mul, ← Nat.div_div_eq_div_mul, h3]
      · rw [sd_div (Nat.lt_succ_self k) (dg_lt _ _), Bp_succ, ← Nat.div_div_eq_div_mul, ← Nat.div_div_eq_div_mul, h4]
  have := loop 64 0 (rv a) (rv b) (by omega) (hB a) (hB b) (by rw [Bp_0, Nat.mod_one, Nat.mod_one]) (by rw [Bp_0, Nat.mod_one, Nat.mod_one]) rfl rfl none none
  rw [up_self, up_self] at this
  exact b87_0 this
theorem m_isZ (hr : r < 16) (hB : BM rv) : Er (d + 1) 81 (0, ent 81 [.ref 1, .int (nI r)], [], MS σ rv) (.inl (some (.int (if rv r = 0 then 1 else 0))), MS σ rv, 0) := by
  have loop : ∀ n k, k + n = 64 → rv r % Bp k = 0 → Er (d + 1) 81 (2, [some (.ref 1), some (.int (nI r)), some (.int (nI k))], [], MS σ rv) (.inl (some (.int (if rv r = 0 then 1 else 0))), MS σ rv, 0) := by
    intro n
    induction n with
    | zero =>
      intro k hk hz
      rw [Nat.add_zero] at hk
      subst hk
      rw [Bp_mod (hB r)] at hz
      rw [if_pos hz]
      exact b81_2 (fun _ => b81_32 rfl) (fun q => absurd (Int32.le_refl _) q)
    | succ n ih =>
      intro k hk hz
      refine b81_2 (fun q => absurd q (nI_ge (b := 64) (by omega) (by decide))) (fun _ => b81_8 k1 (inM hr (by omega)) (fun q => ?_) (fun q => ?_))
      · rw [rdM hr (by omega), lN_ne0 (dg_lt _ _)] at q
        refine b81_26 ?_
        rw [nI_1]
        refine ih (k + 1) (by omega) ?_
        rw [dg_split, hz, q, Nat.zero_mul]
      · rw [rdM hr (by omega), lN_ne0 (dg_lt _ _)] at q
        rw [if_neg]
        · exact b81_24 rfl
        · intro z
          rw [z, dg_0] at q
          exact q rfl
  exact b81_0 (loop 64 0 (by omega) (by rw [Bp_0, Nat.mod_one]))
theorem m_even (hr : r < 16) : Er (d + 1) 84 (0, ent 84 [.ref 1, .int (nI r)], [], MS σ rv) (.inl (some (.int (if rv r % 2 = 0 then 1 else 0))), MS σ rv, 0) := by
  have e0 : (64 : Int32) * nI r = (64 : Int32) * nI r + nI 0 := by rw [ix, show (64 : Int32) = nI 64 from rfl, pk_mul, Nat.add_zero]
  have ev : gal (MS σ rv) (fr 1 4) ((64 : Int32) * nI r).toNatClampNeg &&& (1 : Int64) = lN (rv r % 2) := by
    rw [e0, rdM hr (by decide), show lN (dg (rv r) 0) &&& (1 : Int64) = lN (dg (rv r) 0 % 2) from and_N (m := 1) 1 rfl (by decide), dg_zero]
    congr 1
    omega
  refine b84_0 k1 (by rw [e0]; exact inM hr (by decide)) (fun q => ?_) (fun q => ?_)
  · rw [ev] at q
    rw [if_neg (fun c => q (by rw [c]; rfl))]
    exact b84_20 (b84_21 rfl)
  · rw [ev] at q
    rw [if_pos ((lN_inj (b := 0) (by omega) (by decide)).mp q)]
    exact b84_16 (b84_21 rfl)
theorem m_cmpM (ha : a < 16) (hb : b < 16) (hB : BM rv) : Er (d + 1) 86 (0, ent 86 [.ref 1, .int (nI a), .int (nI b)], [], MS σ rv) (.inl (some (.int (iZ (cz (rv a : Int) (rv b : Int))))), MS σ rv, 0) := by
  have loop : ∀ m, m ≤ 64 → rv a / Bp m = rv b / Bp m → Er (d + 1) 86 (3, [some (.ref 1), some (.int (nI a)), some (.int (nI b)), some (.int (nI m - 1))], [], MS σ rv) (.inl (some (.int (iZ (cz (rv a : Int) (rv b : Int))))), MS σ rv, 0) := by
    intro m
    induction m with
    | zero =>
      intro _ e
      rw [Bp_0, Nat.div_one, Nat.div_one] at e
      have : cz (rv a : Int) (rv b : Int) = 0 := if_pos (by omega)
      rw [this]
      exact b86_3 (fun _ => b86_71) (fun q => absurd (by decide) q)
    | succ m ih =>
      intro hm e
      rw [nI_pred]
      refine b86_3 (fun q => absurd q (nI_pos (by omega))) (fun _ => b86_7 k1 (inM ha (by omega)) (inM hb (by omega)) (fun q => ?_) (fun q => ?_))
      · rw [rdM ha (by omega), rdM hb (by omega)] at q
        have q2 : dg (rv a) m = dg (rv b) m := (lN_inj (Nat.lt_trans (dg_lt _ _) (by decide)) (Nat.lt_trans (dg_lt _ _) (by decide))).mp q
        refine b86_65 ?_
        rw [add_m1]
        refine ih (by omega) ?_
        rw [div_dg (rv a), div_dg (rv b), e, q2]
      · rw [rdM ha (by omega), rdM hb (by omega)] at q
        have q2 : dg (rv a) m ≠ dg (rv b) m := fun k => q (by rw [k])
        have d1 := div_dg (rv a) m
        have d2 := div_dg (rv b) m
        have l1 : dg (rv a) m < 2 ^ 63 := Nat.lt_trans (dg_lt _ _) (by decide)
        have l2 : dg (rv b) m < 2 ^ 63 := Nat.lt_trans (dg_lt _ _) (by decide)
        refine b86_33 k1 (inM ha (by omega)) (inM hb (by omega)) (fun w => ?_) (fun w => ?_)
        · rw [rdM ha (by omega), rdM hb (by omega), pk_lLT l1 l2] at w
          have : rv b < rv a := nlt_div (k := Bp m) (by omega)
          have ec : cz (rv a : Int) (rv b : Int) = 1 := by unfold cz; rw [if_neg (by omega), if_neg (by omega)]
          rw [ec]
          exact b86_63 b86_64
        · rw [rdM ha (by omega), rdM hb (by omega), pk_lLT l1 l2] at w
          have : rv a < rv b := nlt_div (k := Bp m) (by omega)
          have ec : cz (rv a : Int) (rv b : Int) = -1 := by unfold cz; rw [if_neg (by omega), if_pos (by omega)]
          rw [ec]
          exact b86_59 b86_64
  refine b86_0 ?_
  have := loop 64 (Nat.le_refl _) (by rw [div_Bp_lt (hB a), div_Bp_lt (hB b)])
  exact this
theorem m_addM (ha : a < 16) (hb : b < 16) (hne : b ≠ a) (hB : BM rv) (hs : rv a + rv b < Bp 64) : Er (d + 1) 113 (0, ent 113 [.ref 1, .int (nI a), .int (nI b)], [], MS σ rv) (.inl none, MS σ (up rv a (rv a + rv b)), 0) := by
  have loop : ∀ n j U c, j + n = 64 → c < 3 → U + c * Bp j = rv a + rv b % Bp j → ∀ o6 o7, Er (d + 1) 113 (5, [some (.ref 1), some (.int (nI a)), some (.int (nI b)), some (.long (lN c)), none, some (.int (nI j)), o6, o7], [], MS σ (up rv a U)) (.inl none, MS σ (up rv a (rv a + rv b)), 0) := by
    intro n
    induction n with
    | zero =>
      intro j U c hj hc e1 o6 o7
      rw [Nat.add_zero] at hj
      subst hj
      rw [Bp_mod (hB b)] at e1
      have hc0 : c = 0 := by
        rcases Nat.eq_zero_or_pos c with q | q
        · exact q
        · have := Nat.le_mul_of_pos_left (Bp 64) q
          omega
      subst hc0
      have hU : U = rv a + rv b := by omega
      subst hU
      exact b113_5 (fun _ => b113_71) (fun q => absurd (Int32.le_refl _) q)
    | succ n ih =>
      intro j U c hj hc e1 o6 o7
      refine b113_5 (fun q => absurd q (nI_ge (b := 64) (by omega) (by decide))) (fun _ => b113_12 k1 (inM ha (by omega)) (inM hb (by omega)) ?_)
      have hu := dg_lt U j
      have hv := dg_lt (rv b) j
      have w := wrM (σ := σ) (rv := up rv a U) (r := a) (k := j) (x := (dg U j + dg (rv b) j + c) % 4294967296) ha (by omega) (Nat.mod_lt _ (by decide))
      rw [up_s, up_up] at w
      rw [rdM ha (by omega), rdM hb (by omega), up_s, up_n hne, lN_add, lN_add, m32, w, nI_1, shr_N (s := 32) 32 (by omega) rfl (by decide), show (2 : Nat) ^ 32 = 4294967296 from rfl]
      refine ih (j + 1) _ _ (by omega) (by omega) ?_ _ _
      have ds := dstep U j (dg U j + dg (rv b) j + c)
      rw [Nat.add_mul (dg U j + dg (rv b) j), Nat.add_mul (dg U j)] at ds
      have sp := dg_split (rv b) j
      omega
  have := loop 64 0 (rv a) 0 (by omega) (by omega) (by rw [Bp_0, Nat.mod_one]) none none
  rw [up_self] at this
  exact b113_0 this
theorem m_takeM (ha : a < 16) (hb : b < 16) (hne : b ≠ a) (hB : BM rv) (hs : rv b ≤ rv a) : Er (d + 1) 88 (0, ent 88 [.ref 1, .int (nI a), .int (nI b)], [], MS σ rv) (.inl none, MS σ (up rv a (rv a - rv b)), 0) := by
  have loop : ∀ n j U c, j + n = 64 → c ≤ 1 → U < Bp 64 → U + rv b % Bp j = rv a + c * Bp j → ∀ o6 o7, Er (d + 1) 88 (5, [some (.ref 1), some (.int (nI a)), some (.int (nI b)), some (.long (lN c)), none, some (.int (nI j)), o6, o7], [], MS σ (up rv a U)) (.inl none, MS σ (up rv a (rv a - rv b)), 0) := by
    intro n
    induction n with
    | zero =>
      intro j U c hj hc hU e1 o6 o7
      rw [Nat.add_zero] at hj
      subst hj
      rw [Bp_mod (hB b)] at e1
      have hc0 : c = 0 := by
        rcases Nat.eq_zero_or_pos c with q | q
        · exact q
        · have := Nat.le_mul_of_pos_left (Bp 64) q
          omega
      subst hc0
      have hU2 : U = rv a - rv b := by omega
      subst hU2
      exact b88_5 (fun _ => b88_78) (fun q => absurd (Int32.le_refl _) q)
    | succ n ih =>
      intro j U c hj hc hU e1 o6 o7
      refine b88_5 (fun q => absurd q (nI_ge (b := 64) (by omega) (by decide))) (fun _ => ?_)
      have hu := dg_lt U j
      have hv := dg_lt (rv b) j
      obtain ⟨z, hz⟩ : ∃ z : Int, z = (dg U j : Int) - dg (rv b) j - c := ⟨_, rfl⟩
      obtain ⟨x, c2, hx, hx2, hc2, hsg, key⟩ := borrow_key (z := z) hu hv hc hz
      have ez : lN (dg U j) - lN (dg (rv b) j) - lN c = lZ z := by rw [← lZ_N, ← lZ_N, ← lZ_N, lZ_sub, lZ_sub, hz]
      have w := wrM (σ := σ) (rv := up rv a U) (r := a) (k := j) (x := x) ha (by omega) hx2
      rw [up_s, up_up] at w
      have ds := sd_eq U j x
      have sp := dg_split (rv b) j
      have k2 : (x + dg (rv b) j + c) * Bp j = (dg U j + c2 * 4294967296) * Bp j := by rw [key]
      rw [Nat.add_mul, Nat.add_mul, Nat.add_mul] at k2
      have k3 : c2 * Bp (j + 1) = c2 * 4294967296 * Bp j := by rw [Bp_succ, Nat.mul_assoc, Nat.mul_comm 4294967296]
      have t0 : (0 : Int64).toInt = 0 := rfl
      have nxt := ih (j + 1) (sd U j x) c2 (by omega) hc2 (sd_lt hU (by omega) hx2) (by omega) (some (.long (lZ z))) none
      refine b88_12 k1 (inM ha (by omega)) (inM hb (by omega)) (fun q => ?_) (fun q => ?_)
      · rw [rdM ha (by omega), rdM hb (by omega), up_s, up_n hne, ez, l_lt, lZ_t (by omega) (by omega), t0] at q
        rw [rdM ha (by omega), rdM hb (by omega), up_s, up_n hne, ez, mZ, hx, w]
        rw [if_neg q] at hsg
        refine b88_70 (b88_71 ?_)
        rw [nI_1, show (0 : Int64) = lN 0 from rfl, hsg]
        exact nxt
      · rw [rdM ha (by omega), rdM hb (by omega), up_s, up_n hne, ez, l_lt, lZ_t (by omega) (by omega), t0] at q
        rw [rdM ha (by omega), rdM hb (by omega), up_s, up_n hne, ez, mZ, hx, w]
        rw [if_pos q] at hsg
        refine b88_66 (b88_71 ?_)
        rw [nI_1, show (1 : Int64) = lN 1 from rfl, hsg]
        exact nxt
  have := loop 64 0 (rv a) 0 (by omega) (by omega) (hB a) (by rw [Bp_0, Nat.mod_one]) none none
  rw [up_self] at this
  exact b88_0 this
end
