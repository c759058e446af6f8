/-! the law's start: what holds of the tables and of the old heap -/
def nm9 : List String := ["DOUBLE", "FLOAT"]
def tm9 (k i : Nat) : Term := if k < 3 then .int (efi (46 + i) k) else .long (efl (46 + i) k)
theorem str_in : ∀ b, b < 13 → Cond.stringRef (thr b).1 (thr b).2.2.2.1 (thr b).2.2.2.2.1 ∈ lw_tbl ∧ ((thr b).1 = fK 4 ∨ (thr b).1 = fK 3) := by decide +kernel
theorem cas_in : ∀ x, x < 4 → ∀ y, y < 4 → x ≠ y → Cond.not (.castable (exn x) (exn y)) ∈ flatC (Jvm.Cond.and given_1 narrow_1) := by decide +kernel
theorem fmt_in : ∀ k, k < 6 → ∀ i, i < 2 → Cond.eq (.field (.static K7 (nm9.getD i "") "LNumberModels$Format;") (T7 k).1 (T7 k).2.1 (T7 k).2.2.1) (tm9 k i) ∈ flatC (Jvm.Cond.and given_1 narrow_1) := by decide +kernel
theorem exa_in : ∀ i, i < 2 → Cond.exactly (.static K7 (nm9.getD i "") "LNumberModels$Format;") K7 ∈ flatC (Jvm.Cond.and given_1 narrow_1) := by decide +kernel
theorem lay_in : ∀ i, i < 2 → Cond.laysStatic K7 (nm9.getD i "") "LNumberModels$Format;" ∈ lw_tbl := by decide +kernel
theorem thw_in : Cond.laysStatic Bundle.tN "UNASSIGNED_STACK" Bundle.steD ∈ lw_tbl ∧ Cond.laysStatic Bundle.tN "SUPPRESSED_SENTINEL" Bundle.listD ∈ lw_tbl ∧ Cond.initialized Bundle.tN ∈ lw_tbl ∧ Cond.initialized K7 ∈ lw_tbl := by decide +kernel
theorem rfs_in : Cond.isRef (.static Bundle.tN "UNASSIGNED_STACK" Bundle.steD) ∈ flatC (Jvm.Cond.and given_1 narrow_1) ∧ Cond.isRef (.static Bundle.tN "SUPPRESSED_SENTINEL" Bundle.listD) ∈ flatC (Jvm.Cond.and given_1 narrow_1) := by decide +kernel
theorem tm9_ev {k i : Nat} {args : Array Value} {s : State} (hi : i < 2) : (tm9 k i).eval args s none [] s = some (efv (46 + i) k) := by
  unfold tm9 efv
  by_cases c : k < 3
  · rw [if_pos c, if_pos c]
    rfl
  · rw [if_neg c, if_neg c]
    rfl
section
variable {s : State} {b L : Nat} {xs : Nat → Int32} {D : va_G} {cI cJ : ClassId}
theorem fmt_at (hgv : (Jvm.Cond.and given_1 narrow_1).before #[Value.ref b] s = true) {i : Nat} (hi : i < 2) : ∃ a, (Term.static K7 (nm9.getD i "") "LNumberModels$Format;").eval #[Value.ref b] s none [] s = some (.ref a) := by
  have h := flat_of_before _ hgv _ (exa_in i hi)
  obtain ⟨a, c, cell, k, h1, _⟩ := Cond.exactly_spec (args := #[Value.ref b]) (first := s) (o := none) (s := s) (idx := []) h
  exact ⟨a, h1⟩
theorem Ks_start {ad : Nat → Nat} {A : Nat → Prop} (hts : ∀ w ∈ lw_tbl, w.before #[Value.ref b] s = true) (hgv : (Jvm.Cond.and given_1 narrow_1).before #[Value.ref b] s = true) (hK : va_K D cls9 (tys9 cI cJ) s) (hX : va_X b L xs s s.heap) (hbl : b < s.heap.size) (hA : ∀ a : Nat, a < s.heap.size → ¬ A a)
    (hf : ∀ i, i < 2 → (Term.static K7 (nm9.getD i "") "LNumberModels$Format;").eval #[Value.ref b] s none [] s = some (.ref (ad (46 + i)))) (h48 : ad 48 = b) : Ks ad L xs A s s.heap := by
  have hs := flat_of_before _ hgv
  have hO : ∀ i, i < 2 → va_O K7 (ad (46 + i)) A s s.heap ∧ ∀ k, k < 6 → va_OF (T7 k).1 (T7 k).2.1 (T7 k).2.2.1 (efv (46 + i) k) (ad (46 + i)) A s s.heap := by
    intro i hi
    refine ⟨va_Oof (hs _ (exa_in i hi)) (hf i hi) hA, fun k hk => ?_⟩
    exact va_Efof (N := 2) (nm := nm9) (v := fun i => efv (46 + i) k) (tm := tm9 k) (ad := fun i => ad (46 + i)) hf (fun i hi => hs _ (fmt_in k hk i hi)) (fun i hi => tm9_ev hi) hA i hi
  refine ⟨fun w hw hn => va_Nw.of (nw_on hn) (hts w hw), fun b9 hb9 => ?_, fun x y hx hy hxy => va_Nc.of (hs _ (cas_in x hx y hy hxy)), ⟨va_Zof (hts _ (lay_in 0 (by decide))) (hts _ thw_in.2.2.2) (hf 0 (by decide)) hA, va_Zof (hts _ (lay_in 1 (by decide))) (hts _ thw_in.2.2.2) (hf 1 (by decide)) hA⟩, fun i hi => ?_, ⟨vx_Zqof (hts _ thw_in.1) (hts _ thw_in.2.2.1) (hs _ rfs_in.1) hA, vx_Zqof (hts _ thw_in.2.1) (hts _ thw_in.2.2.1) (hs _ rfs_in.2) hA⟩, ?_⟩
  · obtain ⟨h1, h2⟩ := str_in b9 hb9
    have h3 := hts _ h1
    obtain ⟨cur, hcur⟩ : ∃ cur, s.vm.findClass (thr b9).1 = some cur := by
      rcases h2 with e | e
      · exact ⟨_, by rw [e]; exact (hK.1 4 _ rfl).2.1⟩
      · exact ⟨_, by rw [e]; exact (hK.1 3 _ rfl).2.1⟩
    obtain ⟨k, cf, i, a, _, _, _, _, _, h9⟩ := Cond.stringRef_spec hcur h3
    exact ⟨a, vk_R.of h3 h9⟩
  · rcases hi with rfl | rfl
    · exact hO 0 (by decide)
    · exact hO 1 (by decide)
  · rw [h48]
    exact ⟨hX, hbl, hA b hbl⟩
end
/-! the first state -/
def σ00 (N : Nat) (xs : Nat → Int32) : St := (fun _ _ => 0, fun _ _ => 0, fun i => if i = 48 then xs else fun _ => 0, fun _ _ => 0, N)
theorem st_00 (N : Nat) (xs : Nat → Int32) : KS (ZS (σ00 N xs) (fun _ => 0) (fun _ => 0)) (fun _ => 0) (fun _ => 0) (fun _ _ => 0) = σ00 N xs := by
  unfold KS NS SL SD ZS MS FSc sar σ00
  simp only
  congr 1
  · funext a b
    rw [nd_0]
    split
    · rfl
    · split
      · rfl
      · split
        · rfl
        · rfl
  · congr 2
    · congr 1
      funext a
      rw [dgs_0]
      split
      · rfl
      · split
        · funext j
          unfold wf
          rw [dgs_0]
        · rfl
theorem LI_00 (N : Nat) (xs : Nat → Int32) : LI (σ00 N xs) 0 (fun _ => 0) (fun _ => 0) (fun _ => 0) xs N := ⟨⟨by decide, fun a ha => absurd ha (by omega)⟩, ⟨rfl, fun a ha => absurd ha (by omega)⟩, ⟨rfl, fun a ha => absurd ha (by omega)⟩, rfl, rfl⟩
theorem law_00 {N : Nat} {xs : Nat → Int32} (hN : N ≤ 3072) : ∃ S2 c, c ≤ 512 ∧ Er 14 181 (23, [some (.ref 48), some (.ref 0), some (.ref 1), some (.ref 45), some (.int 0), none, none, none], [], σ00 N xs) (.inl (some (.int 1)), S2, c) := by
  obtain ⟨S2, c, hc, hr⟩ := law_loop (d := 2) (xs := xs) hN 512 0 (σ00 N xs) 0 _ _ _ none none none (fun _ => 0) (fun _ => 0) (fun _ _ => 0) (fun _ => 0) (fun _ => 0) (by omega) (by decide) (LI_00 N xs) (fun _ => Nat.two_pow_pos _) (fun _ => Bp_pos 64)
  rw [st_00] at hr
  exact ⟨S2, c, hc, hr⟩
/-! the end -/
theorem same_new {s t : State} {L : List Loc} {k n : Nat} (h : s.sameButNew t L k n) (hL : ∀ q ∈ L, s.heap.size ≤ q.base) : s.sameButNew t [] k n := by
  obtain ⟨h1, h2, h3, h4, h5, h6⟩ := h
  refine ⟨h1, h2, h3, h4, h5, fun a c hc => ?_⟩
  obtain ⟨c', g1, g2, g3, g4⟩ := h6 a c hc
  refine ⟨c', g1, g2, g3, fun i _ => g4 i (fun hin => ?_)⟩
  have := hL _ hin
  have hlt := (Array.getElem?_eq_some_iff.mp hc).1
  have : s.heap.size ≤ a := this
  omega
