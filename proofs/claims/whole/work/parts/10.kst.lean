/-! what the tables and the constants say, at a method's start -/
def gtb : List Cond := lw_tbl.filter goodWord
theorem gtb_of {w : Cond} (h : w ∈ lw_tbl) (hg : goodWord w = true) : w ∈ gtb := List.mem_filter.mpr ⟨h, hg⟩
theorem tis_mem {w : Nat} {c : Cond} (h : tis w c = true) : c ∈ lw_tbl := List.mem_of_getElem? (of_decide_eq_true h)
theorem fld_in : ∀ c, c < 6 → ∀ w ∈ u_ws (fK c) (fT c) (nf c), w ∈ gtb := by
  have h : ((List.range 6).all fun c => (u_ws (fK c) (fT c) (nf c)).all fun w => decide (w ∈ gtb)) = true := by decide +kernel
  intro c hc w hw
  exact of_decide_eq_true (List.all_eq_true.mp (List.all_eq_true.mp h c (List.mem_range.mpr hc)) w hw)
def fty (c k : Nat) : FieldType := (parseFieldDescriptor (fT c k).2.2.1).getD .int
theorem fty_ok : ∀ c, c < 6 → ∀ k, k < nf c → parseFieldDescriptor (fT c k).2.2.1 = some (fty c k) := by
  have h : ((List.range 6).all fun c => (List.range (nf c)).all fun k => (parseFieldDescriptor (fT c k).2.2.1).isSome) = true := by decide +kernel
  intro c hc k hk
  have h1 := List.all_eq_true.mp (List.all_eq_true.mp h c (List.mem_range.mpr hc)) k (List.mem_range.mpr hk)
  unfold fty
  cases h2 : parseFieldDescriptor (fT c k).2.2.1 with
  | none => rw [h2] at h1; cases h1
  | some t => rfl
theorem fnm_ok : ∀ c, c < 6 → ∀ a, a < nf c → ∀ b, b < nf c → a ≠ b → (fT c a).2.1 ≠ (fT c b).2.1 := by
  have h : ((List.range 6).all fun c => (List.range (nf c)).all fun a => (List.range (nf c)).all fun b => decide (a = b) || decide ((fT c a).2.1 ≠ (fT c b).2.1)) = true := by decide +kernel
  intro c hc a ha b hb hab
  have h1 := List.all_eq_true.mp (List.all_eq_true.mp (List.all_eq_true.mp h c (List.mem_range.mpr hc)) a (List.mem_range.mpr ha)) b (List.mem_range.mpr hb)
  simp only [Bool.or_eq_true, decide_eq_true_eq] at h1
  exact h1.resolve_left hab
theorem fty_i : ∀ c, c < 6 → ∀ k, k < nf c → ft c k = 0 → parseFieldDescriptor (fT c k).2.2.1 = some .int := by
  have h : ((List.range 6).all fun c => (List.range (nf c)).all fun k => decide (ft c k ≠ 0) || decide (parseFieldDescriptor (fT c k).2.2.1 = some .int)) = true := by decide +kernel
  intro c hc k hk h0
  have h1 := List.all_eq_true.mp (List.all_eq_true.mp h c (List.mem_range.mpr hc)) k (List.mem_range.mpr hk)
  simp only [Bool.or_eq_true, decide_eq_true_eq] at h1
  exact h1.resolve_left (fun z => z h0)
theorem fty_l : ∀ c, c < 6 → ∀ k, k < nf c → ft c k = 1 → parseFieldDescriptor (fT c k).2.2.1 = some .long := by
  have h : ((List.range 6).all fun c => (List.range (nf c)).all fun k => decide (ft c k ≠ 1) || decide (parseFieldDescriptor (fT c k).2.2.1 = some .long)) = true := by decide +kernel
  intro c hc k hk h0
  have h1 := List.all_eq_true.mp (List.all_eq_true.mp h c (List.mem_range.mpr hc)) k (List.mem_range.mpr hk)
  simp only [Bool.or_eq_true, decide_eq_true_eq] at h1
  exact h1.resolve_left (fun z => z h0)
def isNW : Cond → Bool
  | .fieldLinkNest _ _ _ _ _ _ | .methodLinkNest _ _ _ _ | .castable _ _ | .declares _ => true
  | _ => false
theorem nw_on {w : Cond} (h : isNW w = true) : w.onTables = true := by
  cases w <;> first | rfl | (simp [isNW] at h)
theorem nw_warm {w : Cond} (h : isNW w = true) {s U : State} (hW : s.WarmedH U.vm) (hz : va_Nw w s) : va_Nw w U := by
  cases w <;> first | exact va_Nw.warmF hW hz | exact va_Nw.warmM hW hz | exact va_Nw.warmC hW hz | exact va_Nw.warmD hW hz | (simp [isNW] at h)
def Ks (ad : Nat → Nat) (N : Nat) (xs : Nat → Int32) (A : Nat → Prop) (U : State) (H : Heap) : Prop :=
  (∀ w ∈ lw_tbl, isNW w = true → va_Nw w U) ∧
  (∀ b, b < 13 → ∃ a, vk_R (thr b).1 (thr b).2.2.2.1 (thr b).2.2.2.2.1 a U) ∧
  (∀ x y, x < 4 → y < 4 → x ≠ y → va_Nc (exn x) (exn y) U) ∧
  (va_Z K7 "DOUBLE" "LNumberModels$Format;" (.ref (ad 46)) A U H ∧ va_Z K7 "FLOAT" "LNumberModels$Format;" (.ref (ad 47)) A U H) ∧
  (∀ i, i = 46 ∨ i = 47 → va_O K7 (ad i) A U H ∧ ∀ k, k < 6 → va_OF (T7 k).1 (T7 k).2.1 (T7 k).2.2.1 (efv i k) (ad i) A U H) ∧
  (vx_Zq Bundle.tN "UNASSIGNED_STACK" Bundle.steD A U H ∧ vx_Zq Bundle.tN "SUPPRESSED_SENTINEL" Bundle.listD A U H) ∧
  (va_X (ad 48) N xs U H ∧ ad 48 < H.size ∧ ¬ A (ad 48))
theorem Ks.to {ad : Nat → Nat} {N : Nat} {xs : Nat → Int32} {A A1 : Nat → Prop} {s U : State} {H : Heap} {locs : List Loc} (h : Ks ad N xs A s s.heap) (hW : s.WarmedH U.vm) (hS : va_S A s.heap H locs) (hU : U.heap = H) (hA : ∀ q, A1 q → A q) : Ks ad N xs A1 U U.heap := by
  obtain ⟨h1, h2, h3, ⟨h4, h5⟩, h6, ⟨h7, h8⟩, h9, h10, h11⟩ := h
  have hk : ∀ a : Nat, a < s.heap.size → ¬ A a → H[a]? = s.heap[a]? := hS.2.1
  have hal := hW.alike
  rw [hU]
  refine ⟨fun w hw hn => nw_warm hn hW (h1 w hw hn), fun b hb => ?_, fun x y hx hy hxy => va_Nc.moved hal (h3 x y hx hy hxy), ⟨va_Z.moved hal ((h4.kept hk).narrow hA), va_Z.moved hal ((h5.kept hk).narrow hA)⟩, fun i hi => ?_, ⟨vx_Zq.moved hal ((h7.kept hk).narrow hA), vx_Zq.moved hal ((h8.kept hk).narrow hA)⟩, va_X.moved hal (h9.kept (hk _ h10 h11)), Nat.lt_of_lt_of_le h10 hS.1, fun z => h11 (hA _ z)⟩
  · obtain ⟨a, ha⟩ := h2 b hb
    exact ⟨a, ha.warm hW⟩
  · obtain ⟨g1, g2⟩ := h6 i hi
    exact ⟨va_O.moved hal ((g1.kept hk).narrow hA), fun k hk9 => va_OF.moved hal (((g2 k hk9).kept hk).narrow hA)⟩
theorem Ks.same {ad : Nat → Nat} {N : Nat} {xs : Nat → Int32} {A : Nat → Prop} {u U : State} (hv : U.vm = u.vm) (hh : U.heap = u.heap) (h : Ks ad N xs A u u.heap) : Ks ad N xs A U U.heap := by
  obtain ⟨h1, h2, h3, ⟨h4, h5⟩, h6, ⟨h7, h8⟩, h9, h10, h11⟩ := h
  have hal : u.vm.Alike U.vm := by rw [hv]; exact Vm.Alike.refl _
  rw [hh]
  refine ⟨fun w hw hn => va_Nw.same (nw_on hn) hv.symm (h1 w hw hn), fun b hb => ?_, fun x y hx hy hxy => va_Nc.moved hal (h3 x y hx hy hxy), ⟨va_Z.moved hal h4, va_Z.moved hal h5⟩, fun i hi => ?_, ⟨vx_Zq.moved hal h7, vx_Zq.moved hal h8⟩, va_X.moved hal h9, h10, h11⟩
  · obtain ⟨a, ha⟩ := h2 b hb
    exact ⟨a, ha.same hv⟩
  · obtain ⟨g1, g2⟩ := h6 i hi
    exact ⟨va_O.moved hal g1, fun k hk9 => va_OF.moved hal (g2 k hk9)⟩
abbrev tys9 (cI cJ : ClassId) : List (ClassId × FieldType) := [(cI, .int), (cJ, .long)]
def QC (D : va_G) (ad : Nat → Nat) (cI cJ : ClassId) (N : Nat) (xs : Nat → Int32) (sz : Nat) (q : Rs) : Array Value → State → Outcome → State → Prop := fun _ st o t => (∃ v, q.1 = .inl v ∧ o = .returned (v.map (rl ad))) ∧ Wd D ad cI cJ N xs (Aw ad sz) q.2.1 t.heap ∧ va_F (Aw ad sz) st t
def XC (D : va_G) (ad : Nat → Nat) (cI cJ : ClassId) (N : Nat) (xs : Nat → Int32) (sz : Nat) (q : Rs) : String → State → State → Prop := fun E st t => (∃ x, q.1 = .inr x ∧ x < 4 ∧ E = exn x) ∧ Wd D ad cI cJ N xs (Aw ad sz) q.2.1 t.heap ∧ va_F (Aw ad sz) st t
def PC (D : va_G) (ad : Nat → Nat) (cI cJ : ClassId) (N : Nat) (xs : Nat → Int32) (sz : Nat) (vs : List Value) (σ : St) : Array Value → State → Prop := va_Pc (vs.map (rl ad)) (fun U => U.heap.size = sz ∧ va_K D cls9 (tys9 cI cJ) U ∧ Ks ad N xs (Aw ad sz) U U.heap ∧ Wd D ad cI cJ N xs (Aw ad sz) σ U.heap)
theorem PC.blind {D : va_G} {ad : Nat → Nat} {cI cJ : ClassId} {N : Nat} {xs : Nat → Int32} {sz : Nat} {vs : List Value} {σ : St} : FrameBlind (PC D ad cI cJ N xs sz vs σ) := by
  intro a U g mk h
  obtain ⟨h1, h2, h3, h4, h5⟩ := h
  exact ⟨h1, h2, va_K.moved (u := U) (U := U.calling g mk a) (Vm.Alike.refl U.vm) h3, Ks.same (u := U) (U := U.calling g mk a) rfl rfl h4, h5⟩
