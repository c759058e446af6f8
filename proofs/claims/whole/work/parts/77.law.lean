/-! both at once -/
theorem KZ {σ : St} {nv : Nat → Nat} {sd : Nat → Int32} {g : Nat → Nat → Int64} {rv : Nat → Nat} {f : Nat → Int32} : KS (ZS σ rv f) nv sd g = ZS (KS σ nv sd g) rv f := by
  unfold ZS MS
  rw [← KS_sar (by decide)]
  congr 1
  unfold KS NS SL SD FSc
  simp only
  congr 1
  funext a b
  by_cases c : a = 1 ∧ b ≠ 1
  · rw [if_neg (by omega), if_neg (by omega), if_pos c, if_pos c]
  · rw [if_neg c, if_neg c]
theorem ZS_sfi0 {σ : St} {rv : Nat → Nat} {f : Nat → Int32} {k : Nat} {v : Int32} : sfi (ZS σ rv f) 0 k v = ZS (sfi σ 0 k v) rv f := by
  unfold ZS MS
  rw [← sfi_sar]
  congr 1
  unfold sfi FSc
  simp only
  congr 1
  funext a b
  by_cases c : a = 0 ∧ b = k
  · rw [if_pos c, if_neg (by omega), if_pos c]
  · rw [if_neg c]
    by_cases c2 : a = 1 ∧ b ≠ 1
    · rw [if_pos c2, if_pos c2]
    · rw [if_neg c2, if_neg c2, if_neg c]
theorem addS_Z {σ : St} {rv : Nat → Nat} {f : Nat → Int32} {n : Nat} {T : Int × Nat × Nat} : addS (ZS σ rv f) n T = ZS (addS σ n T) rv f := by
  unfold addS
  split
  · unfold kept
    rw [ZS_sai, ZS_al (by decide), ZS_sar (by decide), ZS_sfi0]
  · rfl
theorem maS_K {σ : St} {nv : Nat → Nat} {sd : Nat → Int32} {g : Nat → Nat → Int64} {n : Nat} {T : Int × Nat × Nat} : maS (KS σ nv sd g) n T = KS (maS σ n T) nv sd g := by
  unfold maS
  split
  · unfold mkept
    rw [KS_sai, KS_al (by decide), KS_sar (by decide), KS_sfi (by decide)]
  · rfl
theorem out_X {σ : St} {nv : Nat → Nat} {sd : Nat → Int32} {g : Nat → Nat → Int64} {rv : Nat → Nat} {f : Nat → Int32} {v : Int64} : sal (KS (ZS σ rv f) nv sd g) 45 (0 : Int32).toNatClampNeg v = KS (ZS (sal σ 45 0 v) rv f) nv sd g := by
  unfold sal
  rw [KS_al (by decide), ZS_al (by decide), KS_sar (by decide), ZS_sar (by decide)]
  rfl
theorem i45 : isL 45 ∧ vp_in (0 : Int32) (ale 45) := ⟨by unfold isL; omega, vp_in_nI (n := 0) (N := 1) (by decide) (by decide)⟩
def Clx (d m : Nat) (args : List Value) (σ : St) (q : Option Value ⊕ Nat) (σ2 : St) : Prop := ∀ nv sd g rv f, Bd nv → ∃ nv2 sd2 g2 c, Bd nv2 ∧ c ≤ 1 ∧ Er d m (0, ent m args, [], KS (ZS σ rv f) nv sd g) (q, KS (ZS σ2 rv f) nv2 sd2 g2, c)
def Wr (d m : Nat) (args : List Value) (σ : St) (cd : Int32) (σ2 : St) : Prop := ∀ nv sd g rv f, Bd nv → ∃ nv2 sd2 g2 c, Bd nv2 ∧ c ≤ 1 ∧ Er d m (0, ent m args, [], KS (ZS σ rv f) nv sd g) (.inl (some (.int cd)), KS (ZS σ2 rv f) nv2 sd2 g2, c)
def Mr (d m : Nat) (args : List Value) (σ : St) (res : Value) (σ2 : St) (t : Int32) : Prop := ∀ nv sd g rv f, BM rv → ∃ rv2 f2, BM rv2 ∧ f2 0 = t ∧ Er d m (0, ent m args, [], KS (ZS σ rv f) nv sd g) (.inl (some res), KS (ZS σ2 rv2 f2) nv sd g, 0)
theorem Clx_of {d m : Nat} {args : List Value} {σ : St} {q : Option Value ⊕ Nat} {σ2 : St} (h : ∀ rv f, Cl d m args (ZS σ rv f) q (ZS σ2 rv f)) : Clx d m args σ q σ2 := fun nv sd g rv f hb => h rv f nv sd g hb
theorem Mr_of {d m : Nat} {args : List Value} {σ : St} {res : Value} {σ2 : St} {t : Int32} (h : ∀ nv sd g, Ml d m args (KS σ nv sd g) res (KS σ2 nv sd g) t) : Mr d m args σ res σ2 t := by
  intro nv sd g rv f hB
  obtain ⟨rv2, f2, b2, e2, hr⟩ := h nv sd g rv f hB
  refine ⟨rv2, f2, b2, e2, ?_⟩
  rw [KZ, KZ]
  exact hr
theorem z_thr {d : Nat} {S : St} {t : Int32} (h : gfi S 1 0 = t) : Er (d + 1) 75 (0, ent 75 [.ref 1], [], S) (.inl (some (.int t)), S, 0) := by
  rw [← h]
  exact b75_0 k1
theorem thr_X {σ : St} {nv : Nat → Nat} {sd : Nat → Int32} {g : Nat → Nat → Int64} {rv : Nat → Nat} {f : Nat → Int32} : gfi (KS (ZS σ rv f) nv sd g) 1 0 = f 0 := by rw [KS_fi (by decide), ZS_get (by decide)]
section
variable {d : Nat} {σ σ2 : St}
theorem w167_ok {x1 : Int64} {r : Int32} (h : Clx d 39 [.ref 0, .long x1] σ (.inl (some (.int r))) σ2) : Wr (d + 1) 167 [.ref 0, .long x1, .ref 45] σ 0 (sal σ2 45 0 r.toInt64) := by
  intro nv sd g rv f hb
  obtain ⟨nv2, sd2, g2, c, hb2, hc, hr⟩ := h nv sd g rv f hb
  exact ⟨nv2, sd2, g2, c, hb2, hc, c167_0 (q := (.inl (some (.int 0)), KS (ZS (sal σ2 45 0 r.toInt64) rv f) nv2 sd2 g2, 0)) k0 hr (b167_7 i45 (by rw [out_X]; exact b167_16))⟩
theorem w167_x3 {x1 : Int64} (h : Clx d 39 [.ref 0, .long x1] σ (.inr 3) σ2) : Wr (d + 1) 167 [.ref 0, .long x1, .ref 45] σ 1 σ2 := by
  intro nv sd g rv f hb
  obtain ⟨nv2, sd2, g2, c, hb2, hc, hr⟩ := h nv sd g rv f hb
  exact ⟨nv2, sd2, g2, c, hb2, hc, b167_0x3 (q := (.inl (some (.int 1)), KS (ZS σ2 rv f) nv2 sd2 g2, 0)) k0 hr b167_14⟩
theorem w168_ok {x1 : Int64} {x3 : Int64} {r : Int32} (h : Clx d 45 [.ref 0, .long x1, .long x3] σ (.inl (some (.int r))) σ2) : Wr (d + 1) 168 [.ref 0, .long x1, .long x3, .ref 45] σ 0 (sal σ2 45 0 r.toInt64) := by
  intro nv sd g rv f hb
  obtain ⟨nv2, sd2, g2, c, hb2, hc, hr⟩ := h nv sd g rv f hb
  exact ⟨nv2, sd2, g2, c, hb2, hc, c168_0 (q := (.inl (some (.int 0)), KS (ZS (sal σ2 45 0 r.toInt64) rv f) nv2 sd2 g2, 0)) k0 hr (b168_9 i45 (by rw [out_X]; exact b168_22))⟩
theorem w168_x2 {x1 : Int64} {x3 : Int64} (h : Clx d 45 [.ref 0, .long x1, .long x3] σ (.inr 2) σ2) : Wr (d + 1) 168 [.ref 0, .long x1, .long x3, .ref 45] σ 1 σ2 := by
  intro nv sd g rv f hb
  obtain ⟨nv2, sd2, g2, c, hb2, hc, hr⟩ := h nv sd g rv f hb
  exact ⟨nv2, sd2, g2, c, hb2, hc, b168_0x2 (q := (.inl (some (.int 1)), KS (ZS σ2 rv f) nv2 sd2 g2, 0)) k0 hr b168_16⟩
theorem w168_x3 {x1 : Int64} {x3 : Int64} (h : Clx d 45 [.ref 0, .long x1, .long x3] σ (.inr 3) σ2) : Wr (d + 1) 168 [.ref 0, .long x1, .long x3, .ref 45] σ 2 σ2 := by
  intro nv sd g rv f hb
  obtain ⟨nv2, sd2, g2, c, hb2, hc, hr⟩ := h nv sd g rv f hb
  exact ⟨nv2, sd2, g2, c, hb2, hc, b168_0x3 (q := (.inl (some (.int 2)), KS (ZS σ2 rv f) nv2 sd2 g2, 0)) k0 hr b168_20⟩
theorem w169_ok {x1 : Int64} {r : Int32} (h : Clx d 47 [.ref 0, .long x1] σ (.inl (some (.int r))) σ2) : Wr (d + 1) 169 [.ref 0, .long x1, .ref 45] σ 0 (sal σ2 45 0 r.toInt64) := by
  intro nv sd g rv f hb
  obtain ⟨nv2, sd2, g2, c, hb2, hc, hr⟩ := h nv sd g rv f hb
  exact ⟨nv2, sd2, g2, c, hb2, hc, c169_0 (q := (.inl (some (.int 0)), KS (ZS (sal σ2 45 0 r.toInt64) rv f) nv2 sd2 g2, 0)) k0 hr (b169_7 i45 (by rw [out_X]; exact b169_20))⟩
theorem w169_x2 {x1 : Int64} (h : Clx d 47 [.ref 0, .long x1] σ (.inr 2) σ2) : Wr (d + 1) 169 [.ref 0, .long x1, .ref 45] σ 1 σ2 := by
  intro nv sd g rv f hb
  obtain ⟨nv2, sd2, g2, c, hb2, hc, hr⟩ := h nv sd g rv f hb
  exact ⟨nv2, sd2, g2, c, hb2, hc, b169_0x2 (q := (.inl (some (.int 1)), KS (ZS σ2 rv f) nv2 sd2 g2, 0)) k0 hr b169_14⟩
theorem w169_x3 {x1 : Int64} (h : Clx d 47 [.ref 0, .long x1] σ (.inr 3) σ2) : Wr (d + 1) 169 [.ref 0, .long x1, .ref 45] σ 2 σ2 := by
  intro nv sd g rv f hb
  obtain ⟨nv2, sd2, g2, c, hb2, hc, hr⟩ := h nv sd g rv f hb
  exact ⟨nv2, sd2, g2, c, hb2, hc, b169_0x3 (q := (.inl (some (.int 2)), KS (ZS σ2 rv f) nv2 sd2 g2, 0)) k0 hr b169_18⟩
theorem w170_ok {x1 : Int32} {x2 : Int32} {x3 : Int32} {r : Int32} (h : Clx d 48 [.ref 0, .int x1, .int x2, .int x3] σ (.inl (some (.int r))) σ2) : Wr (d + 1) 170 [.ref 0, .int x1, .int x2, .int x3, .ref 45] σ 0 (sal σ2 45 0 r.toInt64) := by
  intro nv sd g rv f hb
  obtain ⟨nv2, sd2, g2, c, hb2, hc, hr⟩ := h nv sd g rv f hb
  exact ⟨nv2, sd2, g2, c, hb2, hc, c170_0 (q := (.inl (some (.int 0)), KS (ZS (sal σ2 45 0 r.toInt64) rv f) nv2 sd2 g2, 0)) k0 hr (b170_10 i45 (by rw [out_X]; exact b170_31))⟩
theorem w170_x0 {x1 : Int32} {x2 : Int32} {x3 : Int32} (h : Clx d 48 [.ref 0, .int x1, .int x2, .int x3] σ (.inr 0) σ2) : Wr (d + 1) 170 [.ref 0, .int x1, .int x2, .int x3, .ref 45] σ 1 σ2 := by
  intro nv sd g rv f hb
  obtain ⟨nv2, sd2, g2, c, hb2, hc, hr⟩ := h nv sd g rv f hb
  exact ⟨nv2, sd2, g2, c, hb2, hc, b170_0x0 (q := (.inl (some (.int 1)), KS (ZS σ2 rv f) nv2 sd2 g2, 0)) k0 hr b170_17⟩
theorem w170_x1 {x1 : Int32} {x2 : Int32} {x3 : Int32} (h : Clx d 48 [.ref 0, .int x1, .int x2, .int x3] σ (.inr 1) σ2) : Wr (d + 1) 170 [.ref 0, .int x1, .int x2, .int x3, .ref 45] σ 2 σ2 := by
  intro nv sd g rv f hb
  obtain ⟨nv2, sd2, g2, c, hb2, hc, hr⟩ := h nv sd g rv f hb
  exact ⟨nv2, sd2, g2, c, hb2, hc, b170_0x1 (q := (.inl (some (.int 2)), KS (ZS σ2 rv f) nv2 sd2 g2, 0)) k0 hr b170_21⟩
theorem w170_x2 {x1 : Int32} {x2 : Int32} {x3 : Int32} (h : Clx d 48 [.ref 0, .int x1, .int x2, .int x3] σ (.inr 2) σ2) : Wr (d + 1) 170 [.ref 0, .int x1, .int x2, .int x3, .ref 45] σ 3 σ2 := by
  intro nv sd g rv f hb
  obtain ⟨nv2, sd2, g2, c, hb2, hc, hr⟩ := h nv sd g rv f hb
  exact ⟨nv2, sd2, g2, c, hb2, hc, b170_0x2 (q := (.inl (some (.int 3)), KS (ZS σ2 rv f) nv2 sd2 g2, 0)) k0 hr b170_25⟩
theorem w170_x3 {x1 : Int32} {x2 : Int32} {x3 : Int32} (h : Clx d 48 [.ref 0, .int x1, .int x2, .int x3] σ (.inr 3) σ2) : Wr (d + 1) 170 [.ref 0, .int x1, .int x2, .int x3, .ref 45] σ 4 σ2 := by
  intro nv sd g rv f hb
  obtain ⟨nv2, sd2, g2, c, hb2, hc, hr⟩ := h nv sd g rv f hb
  exact ⟨nv2, sd2, g2, c, hb2, hc, b170_0x3 (q := (.inl (some (.int 4)), KS (ZS σ2 rv f) nv2 sd2 g2, 0)) k0 hr b170_29⟩
theorem w171_ok {x1 : Int32} {x2 : Int32} {r : Int64} (h : Clx d 62 [.ref 0, .int x1, .int x2] σ (.inl (some (.long r))) σ2) : Wr (d + 1) 171 [.ref 0, .int x1, .int x2, .ref 45] σ 0 (sal σ2 45 0 r) := by
  intro nv sd g rv f hb
  obtain ⟨nv2, sd2, g2, c, hb2, hc, hr⟩ := h nv sd g rv f hb
  exact ⟨nv2, sd2, g2, c, hb2, hc, c171_0 (q := (.inl (some (.int 0)), KS (ZS (sal σ2 45 0 r) rv f) nv2 sd2 g2, 0)) k0 hr (b171_8 i45 (by rw [out_X]; exact b171_16))⟩
theorem w171_x0 {x1 : Int32} {x2 : Int32} (h : Clx d 62 [.ref 0, .int x1, .int x2] σ (.inr 0) σ2) : Wr (d + 1) 171 [.ref 0, .int x1, .int x2, .ref 45] σ 1 σ2 := by
  intro nv sd g rv f hb
  obtain ⟨nv2, sd2, g2, c, hb2, hc, hr⟩ := h nv sd g rv f hb
  exact ⟨nv2, sd2, g2, c, hb2, hc, b171_0x0 (q := (.inl (some (.int 1)), KS (ZS σ2 rv f) nv2 sd2 g2, 0)) k0 hr b171_14⟩
theorem w172_ok {x1 : Int32} {r : Int32} (h : Clx d 63 [.ref 0, .int x1] σ (.inl (some (.int r))) σ2) : Wr (d + 1) 172 [.ref 0, .int x1, .ref 45] σ 0 (sal σ2 45 0 r.toInt64) := by
  intro nv sd g rv f hb
  obtain ⟨nv2, sd2, g2, c, hb2, hc, hr⟩ := h nv sd g rv f hb
  exact ⟨nv2, sd2, g2, c, hb2, hc, c172_0 (q := (.inl (some (.int 0)), KS (ZS (sal σ2 45 0 r.toInt64) rv f) nv2 sd2 g2, 0)) k0 hr (b172_7 i45 (by rw [out_X]; exact b172_15))⟩
theorem w172_x0 {x1 : Int32} (h : Clx d 63 [.ref 0, .int x1] σ (.inr 0) σ2) : Wr (d + 1) 172 [.ref 0, .int x1, .ref 45] σ 1 σ2 := by
  intro nv sd g rv f hb
  obtain ⟨nv2, sd2, g2, c, hb2, hc, hr⟩ := h nv sd g rv f hb
  exact ⟨nv2, sd2, g2, c, hb2, hc, b172_0x0 (q := (.inl (some (.int 1)), KS (ZS σ2 rv f) nv2 sd2 g2, 0)) k0 hr b172_13⟩
theorem w173_ok {x1 : Int32} {x2 : Int32} {r : Int32} (h : Clx d 64 [.ref 0, .int x1, .int x2] σ (.inl (some (.int r))) σ2) : Wr (d + 1) 173 [.ref 0, .int x1, .int x2, .ref 45] σ 0 (sal σ2 45 0 r.toInt64) := by
  intro nv sd g rv f hb
  obtain ⟨nv2, sd2, g2, c, hb2, hc, hr⟩ := h nv sd g rv f hb
  exact ⟨nv2, sd2, g2, c, hb2, hc, c173_0 (q := (.inl (some (.int 0)), KS (ZS (sal σ2 45 0 r.toInt64) rv f) nv2 sd2 g2, 0)) k0 hr (b173_8 i45 (by rw [out_X]; exact b173_17))⟩
theorem w173_x0 {x1 : Int32} {x2 : Int32} (h : Clx d 64 [.ref 0, .int x1, .int x2] σ (.inr 0) σ2) : Wr (d + 1) 173 [.ref 0, .int x1, .int x2, .ref 45] σ 1 σ2 := by
  intro nv sd g rv f hb
  obtain ⟨nv2, sd2, g2, c, hb2, hc, hr⟩ := h nv sd g rv f hb
  exact ⟨nv2, sd2, g2, c, hb2, hc, b173_0x0 (q := (.inl (some (.int 1)), KS (ZS σ2 rv f) nv2 sd2 g2, 0)) k0 hr b173_15⟩
theorem w174_ok {x1 : Int32} {x2 : Int32} {x3 : Int32} {r : Int64} (h : Clx d 65 [.ref 0, .int x1, .int x2, .int x3] σ (.inl (some (.long r))) σ2) : Wr (d + 1) 174 [.ref 0, .int x1, .int x2, .int x3, .ref 45] σ 0 (sal σ2 45 0 r) := by
  intro nv sd g rv f hb
  obtain ⟨nv2, sd2, g2, c, hb2, hc, hr⟩ := h nv sd g rv f hb
  exact ⟨nv2, sd2, g2, c, hb2, hc, c174_0 (q := (.inl (some (.int 0)), KS (ZS (sal σ2 45 0 r) rv f) nv2 sd2 g2, 0)) k0 hr (b174_10 i45 (by rw [out_X]; exact b174_22))⟩
theorem w174_x0 {x1 : Int32} {x2 : Int32} {x3 : Int32} (h : Clx d 65 [.ref 0, .int x1, .int x2, .int x3] σ (.inr 0) σ2) : Wr (d + 1) 174 [.ref 0, .int x1, .int x2, .int x3, .ref 45] σ 1 σ2 := by
  intro nv sd g rv f hb
  obtain ⟨nv2, sd2, g2, c, hb2, hc, hr⟩ := h nv sd g rv f hb
  exact ⟨nv2, sd2, g2, c, hb2, hc, b174_0x0 (q := (.inl (some (.int 1)), KS (ZS σ2 rv f) nv2 sd2 g2, 0)) k0 hr b174_16⟩
theorem w174_x1 {x1 : Int32} {x2 : Int32} {x3 : Int32} (h : Clx d 65 [.ref 0, .int x1, .int x2, .int x3] σ (.inr 1) σ2) : Wr (d + 1) 174 [.ref 0, .int x1, .int x2, .int x3, .ref 45] σ 2 σ2 := by
  intro nv sd g rv f hb
  obtain ⟨nv2, sd2, g2, c, hb2, hc, hr⟩ := h nv sd g rv f hb
  exact ⟨nv2, sd2, g2, c, hb2, hc, b174_0x1 (q := (.inl (some (.int 2)), KS (ZS σ2 rv f) nv2 sd2 g2, 0)) k0 hr b174_20⟩
theorem w175_ok {x1 : Int32} {x2 : Int32} {r : Int32} (h : Clx d 66 [.ref 0, .int x1, .int x2] σ (.inl (some (.int r))) σ2) : Wr (d + 1) 175 [.ref 0, .int x1, .int x2, .ref 45] σ 0 (sal σ2 45 0 r.toInt64) := by
  intro nv sd g rv f hb
  obtain ⟨nv2, sd2, g2, c, hb2, hc, hr⟩ := h nv sd g rv f hb
  exact ⟨nv2, sd2, g2, c, hb2, hc, c175_0 (q := (.inl (some (.int 0)), KS (ZS (sal σ2 45 0 r.toInt64) rv f) nv2 sd2 g2, 0)) k0 hr (b175_8 i45 (by rw [out_X]; exact b175_17))⟩
theorem w175_x0 {x1 : Int32} {x2 : Int32} (h : Clx d 66 [.ref 0, .int x1, .int x2] σ (.inr 0) σ2) : Wr (d + 1) 175 [.ref 0, .int x1, .int x2, .ref 45] σ 1 σ2 := by
  intro nv sd g rv f hb
  obtain ⟨nv2, sd2, g2, c, hb2, hc, hr⟩ := h nv sd g rv f hb
  exact ⟨nv2, sd2, g2, c, hb2, hc, b175_0x0 (q := (.inl (some (.int 1)), KS (ZS σ2 rv f) nv2 sd2 g2, 0)) k0 hr b175_15⟩
theorem w176_ok {x1 : Int32} {x2 : Int64} {r : Int32} (h : Clx d 67 [.ref 0, .int x1, .long x2] σ (.inl (some (.int r))) σ2) : Wr (d + 1) 176 [.ref 0, .int x1, .long x2, .ref 45] σ 0 (sal σ2 45 0 r.toInt64) := by
  intro nv sd g rv f hb
  obtain ⟨nv2, sd2, g2, c, hb2, hc, hr⟩ := h nv sd g rv f hb
  exact ⟨nv2, sd2, g2, c, hb2, hc, c176_0 (q := (.inl (some (.int 0)), KS (ZS (sal σ2 45 0 r.toInt64) rv f) nv2 sd2 g2, 0)) k0 hr (b176_9 i45 (by rw [out_X]; exact b176_18))⟩
theorem w176_x0 {x1 : Int32} {x2 : Int64} (h : Clx d 67 [.ref 0, .int x1, .long x2] σ (.inr 0) σ2) : Wr (d + 1) 176 [.ref 0, .int x1, .long x2, .ref 45] σ 1 σ2 := by
  intro nv sd g rv f hb
  obtain ⟨nv2, sd2, g2, c, hb2, hc, hr⟩ := h nv sd g rv f hb
  exact ⟨nv2, sd2, g2, c, hb2, hc, b176_0x0 (q := (.inl (some (.int 1)), KS (ZS σ2 rv f) nv2 sd2 g2, 0)) k0 hr b176_16⟩
theorem w177_ok {x1 : Int32} {x2 : Int32} {r : Int64} (h : Clx d 69 [.ref 0, .int x1, .int x2] σ (.inl (some (.long r))) σ2) : Wr (d + 1) 177 [.ref 0, .int x1, .int x2, .ref 45] σ 0 (sal σ2 45 0 r) := by
  intro nv sd g rv f hb
  obtain ⟨nv2, sd2, g2, c, hb2, hc, hr⟩ := h nv sd g rv f hb
  exact ⟨nv2, sd2, g2, c, hb2, hc, c177_0 (q := (.inl (some (.int 0)), KS (ZS (sal σ2 45 0 r) rv f) nv2 sd2 g2, 0)) k0 hr (b177_8 i45 (by rw [out_X]; exact b177_20))⟩
theorem w177_x0 {x1 : Int32} {x2 : Int32} (h : Clx d 69 [.ref 0, .int x1, .int x2] σ (.inr 0) σ2) : Wr (d + 1) 177 [.ref 0, .int x1, .int x2, .ref 45] σ 1 σ2 := by
  intro nv sd g rv f hb
  obtain ⟨nv2, sd2, g2, c, hb2, hc, hr⟩ := h nv sd g rv f hb
  exact ⟨nv2, sd2, g2, c, hb2, hc, b177_0x0 (q := (.inl (some (.int 1)), KS (ZS σ2 rv f) nv2 sd2 g2, 0)) k0 hr b177_14⟩
theorem w177_x1 {x1 : Int32} {x2 : Int32} (h : Clx d 69 [.ref 0, .int x1, .int x2] σ (.inr 1) σ2) : Wr (d + 1) 177 [.ref 0, .int x1, .int x2, .ref 45] σ 2 σ2 := by
  intro nv sd g rv f hb
  obtain ⟨nv2, sd2, g2, c, hb2, hc, hr⟩ := h nv sd g rv f hb
  exact ⟨nv2, sd2, g2, c, hb2, hc, b177_0x1 (q := (.inl (some (.int 2)), KS (ZS σ2 rv f) nv2 sd2 g2, 0)) k0 hr b177_18⟩
theorem w178_ok {x1 : Int32} {x2 : Int32} {r : Int32} (h : Clx d 72 [.ref 0, .int x1, .int x2] σ (.inl (some (.int r))) σ2) : Wr (d + 1) 178 [.ref 0, .int x1, .int x2, .ref 45] σ 0 (sal σ2 45 0 r.toInt64) := by
  intro nv sd g rv f hb
  obtain ⟨nv2, sd2, g2, c, hb2, hc, hr⟩ := h nv sd g rv f hb
  exact ⟨nv2, sd2, g2, c, hb2, hc, c178_0 (q := (.inl (some (.int 0)), KS (ZS (sal σ2 45 0 r.toInt64) rv f) nv2 sd2 g2, 0)) k0 hr (b178_8 i45 (by rw [out_X]; exact b178_21))⟩
theorem w178_x0 {x1 : Int32} {x2 : Int32} (h : Clx d 72 [.ref 0, .int x1, .int x2] σ (.inr 0) σ2) : Wr (d + 1) 178 [.ref 0, .int x1, .int x2, .ref 45] σ 1 σ2 := by
  intro nv sd g rv f hb
  obtain ⟨nv2, sd2, g2, c, hb2, hc, hr⟩ := h nv sd g rv f hb
  exact ⟨nv2, sd2, g2, c, hb2, hc, b178_0x0 (q := (.inl (some (.int 1)), KS (ZS σ2 rv f) nv2 sd2 g2, 0)) k0 hr b178_15⟩
theorem w178_x1 {x1 : Int32} {x2 : Int32} (h : Clx d 72 [.ref 0, .int x1, .int x2] σ (.inr 1) σ2) : Wr (d + 1) 178 [.ref 0, .int x1, .int x2, .ref 45] σ 2 σ2 := by
  intro nv sd g rv f hb
  obtain ⟨nv2, sd2, g2, c, hb2, hc, hr⟩ := h nv sd g rv f hb
  exact ⟨nv2, sd2, g2, c, hb2, hc, b178_0x1 (q := (.inl (some (.int 2)), KS (ZS σ2 rv f) nv2 sd2 g2, 0)) k0 hr b178_19⟩
theorem w179_ok {x1 : Int32} {x2 : Int64} {x4 : Int64} {r : Int64} (h : Clx d 73 [.ref 0, .int x1, .long x2, .long x4] σ (.inl (some (.long r))) σ2) : Wr (d + 1) 179 [.ref 0, .int x1, .long x2, .long x4, .ref 45] σ 0 (sal σ2 45 0 r) := by
  intro nv sd g rv f hb
  obtain ⟨nv2, sd2, g2, c, hb2, hc, hr⟩ := h nv sd g rv f hb
  exact ⟨nv2, sd2, g2, c, hb2, hc, c179_0 (q := (.inl (some (.int 0)), KS (ZS (sal σ2 45 0 r) rv f) nv2 sd2 g2, 0)) k0 hr (b179_11 i45 (by rw [out_X]; exact b179_19))⟩
theorem w179_x1 {x1 : Int32} {x2 : Int64} {x4 : Int64} (h : Clx d 73 [.ref 0, .int x1, .long x2, .long x4] σ (.inr 1) σ2) : Wr (d + 1) 179 [.ref 0, .int x1, .long x2, .long x4, .ref 45] σ 1 σ2 := by
  intro nv sd g rv f hb
  obtain ⟨nv2, sd2, g2, c, hb2, hc, hr⟩ := h nv sd g rv f hb
  exact ⟨nv2, sd2, g2, c, hb2, hc, b179_0x1 (q := (.inl (some (.int 1)), KS (ZS σ2 rv f) nv2 sd2 g2, 0)) k0 hr b179_17⟩
theorem w180_ok {x1 : Int32} {x2 : Int64} {r : Int64} (h : Clx d 74 [.ref 0, .int x1, .long x2] σ (.inl (some (.long r))) σ2) : Wr (d + 1) 180 [.ref 0, .int x1, .long x2, .ref 45] σ 0 (sal σ2 45 0 r) := by
  intro nv sd g rv f hb
  obtain ⟨nv2, sd2, g2, c, hb2, hc, hr⟩ := h nv sd g rv f hb
  exact ⟨nv2, sd2, g2, c, hb2, hc, c180_0 (q := (.inl (some (.int 0)), KS (ZS (sal σ2 45 0 r) rv f) nv2 sd2 g2, 0)) k0 hr (b180_9 i45 (by rw [out_X]; exact b180_17))⟩
theorem w180_x1 {x1 : Int32} {x2 : Int64} (h : Clx d 74 [.ref 0, .int x1, .long x2] σ (.inr 1) σ2) : Wr (d + 1) 180 [.ref 0, .int x1, .long x2, .ref 45] σ 1 σ2 := by
  intro nv sd g rv f hb
  obtain ⟨nv2, sd2, g2, c, hb2, hc, hr⟩ := h nv sd g rv f hb
  exact ⟨nv2, sd2, g2, c, hb2, hc, b180_0x1 (q := (.inl (some (.int 1)), KS (ZS σ2 rv f) nv2 sd2 g2, 0)) k0 hr b180_15⟩
end
