/-! every call of the script -/
section
variable {d n : Nat} {σ : St} {sg : Nat → Int} {P Q : Nat → Nat} {xs : Nat → Int32} {N : Nat}
theorem cs0 {v : Int64} (h : LI σ n sg P Q xs N) : Cs d 167 76 [.ref 0, .long v, .ref 45] [.ref 1, .long v] isI σ xs N := by
  refine cs_add (T := wholeT v) (cc := 1) (cm := 39) (aC := [.ref 0, .long v]) h (fun rv f => x_whole h.1 (CD_Z h.2.1)) (fun τ hM => z_whole h.1 hM) ?_ w167_ok w167_x3 (by decide)
  intro b1 b2
  refine ⟨b256.mp b1, b256.mp b2, Nat.one_pos, Nat.gcd_one_right _, ?_⟩
  show (v.toInt.natAbs = 0 ∧ cz v.toInt 0 = 0) ∨ (0 < v.toInt.natAbs ∧ (cz v.toInt 0 = 1 ∨ cz v.toInt 0 = -1))
  unfold cz
  by_cases c : v.toInt = 0
  · rw [if_pos c]
    exact Or.inl ⟨by omega, rfl⟩
  · rw [if_neg c]
    right
    refine ⟨by omega, ?_⟩
    split
    · exact Or.inr rfl
    · exact Or.inl rfl
theorem cz_pm {z : Int} (h : z ≠ 0) : cz z 0 = 1 ∨ cz z 0 = -1 := by
  unfold cz
  rw [if_neg h]
  split
  · exact Or.inr rfl
  · exact Or.inl rfl
theorem cs1 {p q : Int64} (h : LI σ n sg P Q xs N) : Cs d 168 94 [.ref 0, .long p, .long q, .ref 45] [.ref 1, .long p, .long q] isI σ xs N := by
  by_cases hq : q = 0
  · subst hq
    exact cs_x (cc := 1) (cm := 45) (aC := [.ref 0, .long p, .long 0]) h ⟨_, rfl⟩ (fun rv f => x_fractionx) (fun τ _ => z_fractionx) w168_x2 (by decide)
  · refine cs_add (T := fracT p q) (cc := 2) (cm := 45) (aC := [.ref 0, .long p, .long q]) h (fun rv f => x_fraction h.1 (CD_Z h.2.1) hq) (fun τ hM => z_fraction h.1 hM hq) ?_ w168_ok w168_x3 (by decide)
    intro b1 b2
    have hq0 : q.toInt ≠ 0 := fun z => hq (l_eq.mpr (by rw [z]; decide))
    refine Num_mk3 (by omega) ?_ b1 b2
    intro hp
    have h1 := cz_pm (z := p.toInt) (by omega)
    have h2 := cz_pm (z := q.toInt) hq0
    rcases h1 with e | e <;> rcases h2 with e2 | e2 <;> rw [e, e2] <;> omega
theorem cs2 {v : Int64} (h : LI σ n sg P Q xs N) : Cs d 169 95 [.ref 0, .long v, .ref 45] [.ref 1, .long v] isI σ xs N := by
  obtain ⟨u, hu, rfl⟩ : ∃ u, u < 2 ^ 64 ∧ v = lN u := ⟨un v, un_lt v, (lN_un v).symm⟩
  by_cases hf : fsz 46 u < fe 46 * 2 ^ fb 46
  · refine cs_add (T := realT u) (cc := 2) (cm := 47) (aC := [.ref 0, .long (lN u)]) h (fun rv f => x_real h.1 (CD_Z h.2.1) hu hf) (fun τ hM => z_real h.1 hM hu hf) ?_ w169_ok w169_x3 (by decide)
    intro b1 b2
    refine Num_mk3 (Nat.two_pow_pos _) ?_ b1 b2
    intro _
    split
    · exact Or.inr rfl
    · exact Or.inl rfl
  · exact cs_x (cc := 1) (cm := 47) (aC := [.ref 0, .long (lN u)]) h ⟨_, rfl⟩ (fun rv f => x_realx hu hf) (fun τ _ => z_realx hu hf) w169_x2 (by decide)
theorem cs3 {x1 x2 x3 : Int32} (h : LI σ n sg P Q xs N) : Cs d 170 101 [.ref 0, .int x1, .int x2, .int x3, .ref 45] [.ref 1, .int x1, .int x2, .int x3] isI σ xs N := by
  by_cases hi : (∃ a, a < n ∧ x2 = nI a) ∧ ∃ b, b < n ∧ x3 = nI b
  · obtain ⟨⟨a, ha, rfl⟩, b, hb, rfl⟩ := hi
    by_cases hF : ∃ k, x1 = nI k ∧ k < 2 ^ 31 ∧ Fit k (Q a) (P b) (Q b)
    · obtain ⟨k, rfl, _, hF⟩ := hF
      by_cases hz : Dz k (sg a) (sg b)
      · exact cs_x (cc := 3) (cm := 48) (aC := [.ref 0, .int (nI k), .int (nI a), .int (nI b)]) h ⟨_, rfl⟩ (fun rv f => x_actx2 h.1 (CD_Z h.2.1) ha hb hF hz) (fun τ hM => z_actx2 h.1 hM ha hb hF hz) w170_x2 (by decide)
      · refine cs_add (T := actT k sg P Q a b) (cc := 4) (cm := 48) (aC := [.ref 0, .int (nI k), .int (nI a), .int (nI b)]) h (fun rv f => x_act h.1 (CD_Z h.2.1) ha hb hF hz) (fun τ hM => z_act h.1 hM ha hb hF hz) ?_ w170_ok w170_x3 (by decide)
        intro b1 b2
        have ok := actM_ok (k := k) (h.1.num ha) (h.1.num hb) hz
        exact Num_mk3 (s := (actM k (sg a) (P a) (Q a) (sg b) (P b) (Q b)).1) (p := (actM k (sg a) (P a) (Q a) (sg b) (P b) (Q b)).2.1) (q := (actM k (sg a) (P a) (Q a) (sg b) (P b) (Q b)).2.2) ok.1 ok.2 b1 b2
    · exact cs_x (cc := 2) (cm := 48) (aC := [.ref 0, .int x1, .int (nI a), .int (nI b)]) h ⟨_, rfl⟩ (fun rv f => x_actx1 h.1 (CD_Z h.2.1) ha hb hF) (fun τ hM => z_actx1 h.1 hM ha hb hF) w170_x1 (by decide)
  · exact cs_x (cc := 1) (cm := 48) (aC := [.ref 0, .int x1, .int x2, .int x3]) h ⟨_, rfl⟩ (fun rv f => x_actx0 h.1 (CD_Z h.2.1) hi) (fun τ hM => z_actx0 h.1 hM hi) w170_x0 (by decide)
theorem cs6 {x1 x2 : Int32} (h : LI σ n sg P Q xs N) : Cs d 171 116 [.ref 0, .int x1, .int x2, .ref 45] [.ref 1, .int x1, .int x2] isJ σ xs N := by
  by_cases hi : (∃ a, a < n ∧ x1 = nI a) ∧ ∃ k, k < 16 ∧ x2 = nI k
  · obtain ⟨⟨a, ha, rfl⟩, k, hk, rfl⟩ := hi
    exact cs_l (cm := 62) (aC := [.ref 0, .int (nI a), .int (nI k)]) h (fun rv f => x_word h.1 (CD_Z h.2.1) ha hk) (fun τ hM => z_word h.1 hM ha hk) w171_ok
  · exact cs_x (cc := 1) (cm := 62) (aC := [.ref 0, .int x1, .int x2]) h ⟨_, rfl⟩ (fun rv f => x_wordx h.1 (CD_Z h.2.1) hi) (fun τ hM => z_wordx h.1 hM hi) w171_x0 (by decide)
theorem cs7 {x1 : Int32} (h : LI σ n sg P Q xs N) : Cs d 172 117 [.ref 0, .int x1, .ref 45] [.ref 1, .int x1] isI σ xs N := by
  by_cases hi : ∃ a, a < n ∧ x1 = nI a
  · obtain ⟨a, ha, rfl⟩ := hi
    exact cs_i (cm := 63) (aC := [.ref 0, .int (nI a)]) h (fun rv f => x_sign h.1 (CD_Z h.2.1) ha) (fun τ hM => z_sign h.1 hM ha) w172_ok
  · exact cs_x (cc := 1) (cm := 63) (aC := [.ref 0, .int x1]) h ⟨_, rfl⟩ (fun rv f => x_signx h.1 (CD_Z h.2.1) hi) (fun τ hM => z_signx h.1 hM hi) w172_x0 (by decide)
theorem cs8 {x1 x2 : Int32} (h : LI σ n sg P Q xs N) : Cs d 173 118 [.ref 0, .int x1, .int x2, .ref 45] [.ref 1, .int x1, .int x2] isI σ xs N := by
  by_cases hi : ∃ a, a < n ∧ x1 = nI a
  · obtain ⟨a, ha, rfl⟩ := hi
    exact cs_i (cm := 64) (aC := [.ref 0, .int (nI a), .int x2]) h (fun rv f => x_bits2 h.1 (CD_Z h.2.1) ha) (fun τ hM => z_bits h.1 hM ha) w173_ok
  · exact cs_x (cc := 1) (cm := 64) (aC := [.ref 0, .int x1, .int x2]) h ⟨_, rfl⟩ (fun rv f => x_bitsx h.1 (CD_Z h.2.1) hi) (fun τ hM => z_bitsx h.1 hM hi) w173_x0 (by decide)
theorem cs9 {x1 x2 x3 : Int32} (h : LI σ n sg P Q xs N) : Cs d 174 119 [.ref 0, .int x1, .int x2, .int x3, .ref 45] [.ref 1, .int x1, .int x2, .int x3] isJ σ xs N := by
  by_cases hi : ∃ a, a < n ∧ x1 = nI a
  · obtain ⟨a, ha, rfl⟩ := hi
    by_cases hb : ∃ b, 1 ≤ b ∧ b ≤ 64 ∧ x2 = nI b
    · obtain ⟨b, b1, b2, rfl⟩ := hb
      exact cs_l (cm := 65) (aC := [.ref 0, .int (nI a), .int (nI b), .int x3]) h (fun rv f => x_wrap h.1 (CD_Z h.2.1) ha b1 b2) (fun τ hM => z_wrap h.1 hM ha b1 b2) w174_ok
    · exact cs_x (cc := 2) (cm := 65) (aC := [.ref 0, .int (nI a), .int x2, .int x3]) h ⟨_, rfl⟩ (fun rv f => x_wrapx1 h.1 (CD_Z h.2.1) ha hb) (fun τ hM => z_wrapx1 h.1 hM ha hb) w174_x1 (by decide)
  · exact cs_x (cc := 1) (cm := 65) (aC := [.ref 0, .int x1, .int x2, .int x3]) h ⟨_, rfl⟩ (fun rv f => x_wrapx0 h.1 (CD_Z h.2.1) hi) (fun τ hM => z_wrapx0 h.1 hM hi) w174_x0 (by decide)
theorem cs10 {x1 x2 : Int32} (h : LI σ n sg P Q xs N) : Cs d 175 109 [.ref 0, .int x1, .int x2, .ref 45] [.ref 1, .int x1, .int x2] isI σ xs N := by
  by_cases hi : (∃ a, a < n ∧ x1 = nI a) ∧ ∃ b, b < n ∧ x2 = nI b
  · obtain ⟨⟨a, ha, rfl⟩, b, hb, rfl⟩ := hi
    exact cs_i (cm := 66) (aC := [.ref 0, .int (nI a), .int (nI b)]) h (fun rv f => x_order h.1 (CD_Z h.2.1) ha hb) (fun τ hM => z_order h.1 hM ha hb) w175_ok
  · exact cs_x (cc := 1) (cm := 66) (aC := [.ref 0, .int x1, .int x2]) h ⟨_, rfl⟩ (fun rv f => x_orderx h.1 (CD_Z h.2.1) hi) (fun τ hM => z_orderx h.1 hM hi) w175_x0 (by decide)
theorem cs11 {x1 : Int32} {v : Int64} (h : LI σ n sg P Q xs N) : Cs d 176 120 [.ref 0, .int x1, .long v, .ref 45] [.ref 1, .int x1, .long v] isI σ xs N := by
  obtain ⟨u, hu, rfl⟩ : ∃ u, u < 2 ^ 64 ∧ v = lN u := ⟨un v, un_lt v, (lN_un v).symm⟩
  by_cases hi : ∃ a, a < n ∧ x1 = nI a
  · obtain ⟨a, ha, rfl⟩ := hi
    exact cs_i (cm := 67) (aC := [.ref 0, .int (nI a), .long (lN u)]) h (fun rv f => x_meets h.1 (CD_Z h.2.1) ha hu) (fun τ hM => z_meets h.1 hM ha hu) w176_ok
  · exact cs_x (cc := 1) (cm := 67) (aC := [.ref 0, .int x1, .long (lN u)]) h ⟨_, rfl⟩ (fun rv f => x_meetsx h.1 (CD_Z h.2.1) hi) (fun τ hM => z_meetsx h.1 hM hi) w176_x0 (by decide)
theorem cs12 {x1 x2 : Int32} (h : LI σ n sg P Q xs N) : Cs d 177 123 [.ref 0, .int x1, .int x2, .ref 45] [.ref 1, .int x1, .int x2] isJ σ xs N := by
  by_cases hi : ∃ a, a < n ∧ x1 = nI a
  · obtain ⟨a, ha, rfl⟩ := hi
    by_cases hb : ∃ b, b < 4 ∧ x2 = nI b
    · obtain ⟨b, b1, rfl⟩ := hb
      exact cs_l (cm := 69) (aC := [.ref 0, .int (nI a), .int (nI b)]) h (fun rv f => x_nearest h.1 (CD_Z h.2.1) ha b1) (fun τ hM => z_nearest h.1 hM ha b1) w177_ok
    · exact cs_x (cc := 2) (cm := 69) (aC := [.ref 0, .int (nI a), .int x2]) h ⟨_, rfl⟩ (fun rv f => x_nearestx1 h.1 (CD_Z h.2.1) ha hb) (fun τ hM => z_nearestx1 h.1 hM ha hb) w177_x1 (by decide)
  · exact cs_x (cc := 1) (cm := 69) (aC := [.ref 0, .int x1, .int x2]) h ⟨_, rfl⟩ (fun rv f => x_nearestx0 h.1 (CD_Z h.2.1) hi) (fun τ hM => z_nearestx0 h.1 hM hi) w177_x0 (by decide)
theorem cs13 {x1 x2 : Int32} (h : LI σ n sg P Q xs N) : Cs d 178 128 [.ref 0, .int x1, .int x2, .ref 45] [.ref 1, .int x1, .int x2] isI σ xs N := by
  by_cases hi : ∃ a, a < n ∧ x1 = nI a
  · obtain ⟨a, ha, rfl⟩ := hi
    by_cases hb : ∃ b, b < 4 ∧ x2 = nI b
    · obtain ⟨b, b1, rfl⟩ := hb
      exact cs_i (cm := 72) (aC := [.ref 0, .int (nI a), .int (nI b)]) h (fun rv f => x_single h.1 (CD_Z h.2.1) ha b1) (fun τ hM => z_single h.1 hM ha b1) w178_ok
    · exact cs_x (cc := 2) (cm := 72) (aC := [.ref 0, .int (nI a), .int x2]) h ⟨_, rfl⟩ (fun rv f => x_singlex1 h.1 (CD_Z h.2.1) ha hb) (fun τ hM => z_singlex1 h.1 hM ha hb) w178_x1 (by decide)
  · exact cs_x (cc := 1) (cm := 72) (aC := [.ref 0, .int x1, .int x2]) h ⟨_, rfl⟩ (fun rv f => x_singlex0 h.1 (CD_Z h.2.1) hi) (fun τ hM => z_singlex0 h.1 hM hi) w178_x0 (by decide)
theorem cs14 {x1 : Int32} {v w : Int64} (h : LI σ n sg P Q xs N) : Cs d 179 129 [.ref 0, .int x1, .long v, .long w, .ref 45] [.ref 1, .int x1, .long v, .long w] isJ σ xs N := by
  obtain ⟨u, hu, rfl⟩ : ∃ u, u < 2 ^ 64 ∧ v = lN u := ⟨un v, un_lt v, (lN_un v).symm⟩
  obtain ⟨t, ht, rfl⟩ : ∃ t, t < 2 ^ 64 ∧ w = lN t := ⟨un w, un_lt w, (lN_un w).symm⟩
  by_cases hi : ∃ k, k ≤ 10 ∧ x1 = nI k
  · obtain ⟨k, hk, rfl⟩ := hi
    exact cs_l (cm := 73) (aC := [.ref 0, .int (nI k), .long (lN u), .long (lN t)]) h (fun rv f => x_machine hk hu ht) (fun τ hM => z_machine hk hu ht) w179_ok
  · exact cs_x (cc := 1) (cm := 73) (aC := [.ref 0, .int x1, .long (lN u), .long (lN t)]) h ⟨_, rfl⟩ (fun rv f => x_machinex hi) (fun τ hM => z_machinex hi) w179_x1 (by decide)
theorem cs15 {x1 : Int32} {v : Int64} (h : LI σ n sg P Q xs N) : Cs d 180 136 [.ref 0, .int x1, .long v, .ref 45] [.ref 1, .int x1, .long v] isJ σ xs N := by
  obtain ⟨u, hu, rfl⟩ : ∃ u, u < 2 ^ 64 ∧ v = lN u := ⟨un v, un_lt v, (lN_un v).symm⟩
  by_cases hi : ∃ k, k ≤ 6 ∧ x1 = nI k
  · obtain ⟨k, hk, rfl⟩ := hi
    exact cs_l (cm := 74) (aC := [.ref 0, .int (nI k), .long (lN u)]) h (fun rv f => x_cast hk hu) (fun τ hM => z_cast hk hu) w180_ok
  · exact cs_x (cc := 1) (cm := 74) (aC := [.ref 0, .int x1, .long (lN u)]) h ⟨_, rfl⟩ (fun rv f => x_castx hi) (fun τ hM => z_castx hi) w180_x1 (by decide)
theorem and15 (w : Int32) : ∃ c, c < 16 ∧ w &&& 15 = nI c := by
  have h := iZ_nI w.toInt
  rw [iZ_s] at h
  have h3 : (w.toInt % 2 ^ 32).toNat < 2 ^ 32 := by
    have h4 := Int.emod_lt_of_pos w.toInt (b := 2 ^ 32) (by decide)
    have h5 := Int.emod_nonneg w.toInt (b := 2 ^ 32) (by decide)
    simp only [Int.reducePow, Nat.reducePow] at h4 h5 ⊢
    omega
  refine ⟨(w.toInt % 2 ^ 32).toNat % 2 ^ 4, Nat.mod_lt _ (by decide), ?_⟩
  have e := pk_andN h3 (m := 15) 4 rfl
  rw [← h] at e
  exact e
end
section
variable {d n i : Nat} {σ : St} {sg : Nat → Int} {P Q : Nat → Nat} {xs : Nat → Int32} {N : Nat}
theorem cs4 (h : LI σ n sg P Q xs N) : ∃ σ2 n2 sg2 P2 Q2, LI σ2 n2 sg2 P2 Q2 xs N ∧ LwS d i 508 σ σ2 := by
  have hC : Clx (d + 11) 37 [.ref 0] σ (.inl (some (.int (nI n)))) (sfi σ 0 2 0) := by
    apply Clx_of
    intro rv f
    have t := x_clear (d := d + 10) (CD_Z (rv := rv) (f := f) h.2.1)
    rw [ZS_sfi0] at t
    exact t
  have hMD : MD (sfi σ 0 2 0) n sg P Q := MD_eq h.2.2.1 rfl rfl rfl
  have hM : Mr (d + 11) 114 [.ref 1] (sfi σ 0 2 0) (.int (nI n)) (sfi (sfi σ 0 2 0) 1 1 0) 0 := by
    apply Mr_of
    intro nv sd g
    have t := z_clear (d := d + 10) (MD_K (nv := nv) (sd := sd) (g := g) hMD)
    rw [KS_sfi (by decide)] at t
    exact t
  refine ⟨sfi (sfi σ 0 2 0) 1 1 0, 0, sg, P, Q, ⟨⟨by decide, fun a ha => absurd ha (by omega)⟩, ⟨rfl, fun a ha => absurd ha (by omega)⟩, ⟨rfl, fun a ha => absurd ha (by omega)⟩, h.2.2.2.1, h.2.2.2.2⟩, lw4 hC hM⟩
theorem cs5 (h : LI σ n sg P Q xs N) : ∃ σ2 n2 sg2 P2 Q2, LI σ2 n2 sg2 P2 Q2 xs N ∧ LwS d i 521 σ σ2 := by
  have hC : Clx (d + 11) 38 [.ref 0] σ (.inl (some (.int (nI n)))) σ := Clx_of (fun rv f => x_count (CD_Z h.2.1))
  have hM : Mr (d + 11) 115 [.ref 1] σ (.int (nI n)) σ 0 := Mr_of (fun nv sd g => z_count (MD_K h.2.2.1))
  exact ⟨_, n, sg, P, Q, h, lw5 hC hM⟩
theorem law_step (h : LI σ n sg P Q xs N) (hi : i + 6 ≤ N) (hN : N ≤ 3072) : ∃ σ2 n2 sg2 P2 Q2, LI σ2 n2 sg2 P2 Q2 xs N ∧ LwS d i (tsw 40 1341 0 15 #[80, 168, 300, 388, 468, 481, 494, 561, 617, 701, 796, 864, 964, 1031, 1099, 1242] ((gai σ 48 (nI i).toNatClampNeg) &&& 15).toInt) σ σ2 := by
  obtain ⟨c, hc, e⟩ := and15 (gai σ 48 (nI i).toNatClampNeg)
  rw [e]
  have hx := h.2.2.2.1
  have hg := h.2.2.2.2
  have h6 : i + 6 ≤ gsl σ := by rw [hg]; exact hi
  have hN2 : gsl σ ≤ 3072 := by rw [hg]; exact hN
  rcases (show c = 0 ∨ c = 1 ∨ c = 2 ∨ c = 3 ∨ c = 4 ∨ c = 5 ∨ c = 6 ∨ c = 7 ∨ c = 8 ∨ c = 9 ∨ c = 10 ∨ c = 11 ∨ c = 12 ∨ c = 13 ∨ c = 14 ∨ c = 15 by omega) with rfl | rfl | rfl | rfl | rfl | rfl | rfl | rfl | rfl | rfl | rfl | rfl | rfl | rfl | rfl | rfl
  · obtain ⟨σ1, σ2, cd, r, ⟨v, rfl⟩, hW, hM, ho, _, e1, e2, n2, sg2, P2, Q2, hL⟩ := cs0 (d := d) h
    exact ⟨σ2, n2, sg2, P2, Q2, hL, lw0 h6 hN2 hx e1 (e2.trans hg.symm) hW hM (ho v rfl)⟩
  · obtain ⟨σ1, σ2, cd, r, ⟨v, rfl⟩, hW, hM, ho, _, e1, e2, n2, sg2, P2, Q2, hL⟩ := cs1 (d := d) h
    exact ⟨σ2, n2, sg2, P2, Q2, hL, lw1 h6 hN2 hx e1 (e2.trans hg.symm) hW hM (ho v rfl)⟩
  · obtain ⟨σ1, σ2, cd, r, ⟨v, rfl⟩, hW, hM, ho, _, e1, e2, n2, sg2, P2, Q2, hL⟩ := cs2 (d := d) h
    exact ⟨σ2, n2, sg2, P2, Q2, hL, lw2 h6 hN2 hx e1 (e2.trans hg.symm) hW hM (ho v rfl)⟩
  · obtain ⟨σ1, σ2, cd, r, ⟨v, rfl⟩, hW, hM, ho, _, e1, e2, n2, sg2, P2, Q2, hL⟩ := cs3 (d := d) h
    exact ⟨σ2, n2, sg2, P2, Q2, hL, lw3 h6 hN2 hx e1 (e2.trans hg.symm) hW hM (ho v rfl)⟩
  · exact cs4 h
  · exact cs5 h
  · obtain ⟨σ1, σ2, cd, r, ⟨v, rfl⟩, hW, hM, _, ho, e1, e2, n2, sg2, P2, Q2, hL⟩ := cs6 (d := d) h
    exact ⟨σ2, n2, sg2, P2, Q2, hL, lw6 h6 hN2 hx e1 (e2.trans hg.symm) hW hM (ho v rfl)⟩
  · obtain ⟨σ1, σ2, cd, r, ⟨v, rfl⟩, hW, hM, ho, _, e1, e2, n2, sg2, P2, Q2, hL⟩ := cs7 (d := d) h
    exact ⟨σ2, n2, sg2, P2, Q2, hL, lw7 h6 hN2 hx e1 (e2.trans hg.symm) hW hM (ho v rfl)⟩
  · obtain ⟨σ1, σ2, cd, r, ⟨v, rfl⟩, hW, hM, ho, _, e1, e2, n2, sg2, P2, Q2, hL⟩ := cs8 (d := d) h
    exact ⟨σ2, n2, sg2, P2, Q2, hL, lw8 h6 hN2 hx e1 (e2.trans hg.symm) hW hM (ho v rfl)⟩
  · obtain ⟨σ1, σ2, cd, r, ⟨v, rfl⟩, hW, hM, _, ho, e1, e2, n2, sg2, P2, Q2, hL⟩ := cs9 (d := d) h
    exact ⟨σ2, n2, sg2, P2, Q2, hL, lw9 h6 hN2 hx e1 (e2.trans hg.symm) hW hM (ho v rfl)⟩
  · obtain ⟨σ1, σ2, cd, r, ⟨v, rfl⟩, hW, hM, ho, _, e1, e2, n2, sg2, P2, Q2, hL⟩ := cs10 (d := d) h
    exact ⟨σ2, n2, sg2, P2, Q2, hL, lw10 h6 hN2 hx e1 (e2.trans hg.symm) hW hM (ho v rfl)⟩
  · obtain ⟨σ1, σ2, cd, r, ⟨v, rfl⟩, hW, hM, ho, _, e1, e2, n2, sg2, P2, Q2, hL⟩ := cs11 (d := d) h
    exact ⟨σ2, n2, sg2, P2, Q2, hL, lw11 h6 hN2 hx e1 (e2.trans hg.symm) hW hM (ho v rfl)⟩
  · obtain ⟨σ1, σ2, cd, r, ⟨v, rfl⟩, hW, hM, _, ho, e1, e2, n2, sg2, P2, Q2, hL⟩ := cs12 (d := d) h
    exact ⟨σ2, n2, sg2, P2, Q2, hL, lw12 h6 hN2 hx e1 (e2.trans hg.symm) hW hM (ho v rfl)⟩
  · obtain ⟨σ1, σ2, cd, r, ⟨v, rfl⟩, hW, hM, ho, _, e1, e2, n2, sg2, P2, Q2, hL⟩ := cs13 (d := d) h
    exact ⟨σ2, n2, sg2, P2, Q2, hL, lw13 h6 hN2 hx e1 (e2.trans hg.symm) hW hM (ho v rfl)⟩
  · obtain ⟨σ1, σ2, cd, r, ⟨v, rfl⟩, hW, hM, _, ho, e1, e2, n2, sg2, P2, Q2, hL⟩ := cs14 (d := d) h
    exact ⟨σ2, n2, sg2, P2, Q2, hL, lw14 h6 hN2 hx e1 (e2.trans hg.symm) hW hM (ho v rfl)⟩
  · obtain ⟨σ1, σ2, cd, r, ⟨v, rfl⟩, hW, hM, _, ho, e1, e2, n2, sg2, P2, Q2, hL⟩ := cs15 (d := d) h
    exact ⟨σ2, n2, sg2, P2, Q2, hL, lw15 h6 hN2 hx e1 (e2.trans hg.symm) hW hM (ho v rfl)⟩
theorem law_loop (hN : N ≤ 3072) : ∀ (m i : Nat) (σ : St) (n : Nat) (sg : Nat → Int) (P Q : Nat → Nat) (o5 o6 o7 : Option Value) (nv : Nat → Nat) (sd : Nat → Int32) (g : Nat → Nat → Int64) (rv : Nat → Nat) (f : Nat → Int32), N ≤ i + 6 * m → i ≤ 3078 → LI σ n sg P Q xs N → Bd nv → BM rv →
    ∃ S2 c, c ≤ m ∧ Er (d + 12) 181 (23, [some (.ref 48), some (.ref 0), some (.ref 1), some (.ref 45), some (.int (nI i)), o5, o6, o7], [], KS (ZS σ rv f) nv sd g) (.inl (some (.int 1)), S2, c) := by
  intro m
  have lt : ∀ {i : Nat} {σ : St} {nv : Nat → Nat} {sd : Nat → Int32} {g : Nat → Nat → Int64} {rv : Nat → Nat} {f : Nat → Int32}, i ≤ 3078 → gsl σ = N → (((Int32.ofNat (gsl (KS (ZS σ rv f) nv sd g))) - 6) < nI i ↔ N < i + 6) := by
    intro i σ nv sd g rv f hi hg
    have e : Int32.ofNat (gsl (KS (ZS σ rv f) nv sd g)) = nI N := by
      show Int32.ofNat (gsl σ) = _
      rw [hg]
      rfl
    rw [e, ← iZ_N, ← iZ_N, show (6 : Int32) = iZ 6 by decide, iZ_sub, iZ_lt (by omega) (by omega) (by omega) (by omega)]
    omega
  induction m with
  | zero =>
    intro i σ n sg P Q o5 o6 o7 nv sd g rv f hm hi hL hb hB
    refine ⟨_, 0, Nat.le_refl _, b181_23 (fun _ => b181_1387 rfl) (fun z => ?_)⟩
    rw [lt hi hL.2.2.2.2] at z
    omega
  | succ m ih =>
    intro i σ n sg P Q o5 o6 o7 nv sd g rv f hm hi hL hb hB
    by_cases c : N < i + 6
    · exact ⟨_, 0, Nat.zero_le _, b181_23 (fun _ => b181_1387 rfl) (fun z => absurd ((lt hi hL.2.2.2.2).mpr c) z)⟩
    · obtain ⟨σ2, n2, sg2, P2, Q2, hL2, hs⟩ := law_step (d := d) hL (show i + 6 ≤ N by omega) hN
      obtain ⟨p5, p6, p7, nv2, sd2, g2, rv2, f2, c1, hb2, hB2, hc1, go⟩ := hs o5 o6 o7 nv sd g rv f hb hB
      obtain ⟨S3, c2, hc2, hr⟩ := ih (i + 6) σ2 n2 sg2 P2 Q2 p5 p6 p7 nv2 sd2 g2 rv2 f2 (by omega) (by omega) hL2 hb2 hB2
      have e6 : nI i + 6 = nI (i + 6) := nI_add i 6
      refine ⟨S3, c1 + c2, by omega, b181_23 (fun z => absurd ((lt hi hL.2.2.2.2).mp z) c) (fun _ => b181_33 ?_ (go (q := (.inl (some (.int 1)), S3, c2)) (b181_1381 ?_)))⟩
      · show vp_in (nI i) (gsl σ)
        rw [hL.2.2.2.2]
        exact vp_in_nI (by omega) (by omega)
      · rw [e6]
        exact hr
end
