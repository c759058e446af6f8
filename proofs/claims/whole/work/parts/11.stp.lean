/-! one instruction of the small machine is one of the machine -/
section SND
variable {p : Program} {l : Launch} {e : Env} {R : Room} {s : State} {mm : MethodId} {args : Array Value} {below : List Frame} {meth : Method} {cd : Code} {H : Heap} {locs : List Loc} {cells slots : Nat} {Q : State → Prop}
variable {D : va_G} {ad : Nat → Nat} {cI cJ : ClassId} {N : Nat} {xs : Nat → Int32} {A : Nat → Prop} {m : Nat}
def Cx (p : Program) (l : Launch) (s : State) (mm : MethodId) (args : Array Value) (meth : Method) (cd : Code) (m : Nat) : Prop :=
  p.tables.exec = Jvm.exec ∧ cd.code = mby m ∧ meth.sig.returnType = mrt m ∧ cd.maxLocals = mxl m ∧ s.vm.findClass (mow m) = some mm.cls ∧ (∀ w ∈ gtb, w.before args s = true) ∧ meth.locks = false ∧ cd.exceptionTable.toList = tableOf (mhh m) ∧ l.stackTraces = false
def Kt (p : Program) (l : Launch) (e : Env) (R : Room) (s : State) (mm : MethodId) (args : Array Value) (below : List Frame) (meth : Method) (cd : Code) (cells slots : Nat) (Q : State → Prop) (D : va_G) (ad : Nat → Nat) (cI cJ : ClassId) (N : Nat) (xs : Nat → Int32) (A : Nat → Prop) (m : Nat) (c : Cf) : Prop :=
  ∀ (H : Heap) (locs : List Loc) (ls : Array Slot), Wd D ad cI cJ N xs A c.2.2.2 H → va_S A s.heap H locs → LH ad ls (mxl m) c.2.1 → W p l e R s mm args below meth cd H locs cells slots Q (F0 mm c.1 ls (c.2.2.1.map (rl ad)))
theorem rok_d {m pc nx a b w : Nat} {i : Instr} {vi : Int32} {vl : Int64} (h : rok m (pc, nx, i, a, b, w, vi, vl) = true) : decode (mby m) pc = .ok (i, nx - pc) ∧ (isw i = true ∨ nx = pc + iln i) := by
  unfold rok at h
  simp only [Bool.and_eq_true, Bool.or_eq_true, decide_eq_true_eq] at h
  exact ⟨h.1.1.1, h.1.2⟩
theorem o2i_inv {nx : Nat} {c : Cf} {f : Int32 → Int32 → Value} (h : (o2i nx c f).1) : ∃ pc L x y S σ, c = (pc, L, .int y :: .int x :: S, σ) := by
  unfold o2i at h
  split at h
  · exact ⟨_, _, _, _, _, _, rfl⟩
  · exact h.elim
theorem o2l_inv {nx : Nat} {c : Cf} {f : Int64 → Int64 → Value} (h : (o2l nx c f).1) : ∃ pc L x y S σ, c = (pc, L, .long y :: .long x :: S, σ) := by
  unfold o2l at h
  split at h
  · exact ⟨_, _, _, _, _, _, rfl⟩
  · exact h.elim
theorem osl_inv {nx : Nat} {c : Cf} {f : Int64 → Int32 → Value} (h : (osl nx c f).1) : ∃ pc L x y S σ, c = (pc, L, .int y :: .long x :: S, σ) := by
  unfold osl at h
  split at h
  · exact ⟨_, _, _, _, _, _, rfl⟩
  · exact h.elim
theorem o1i_inv {nx : Nat} {c : Cf} {f : Int32 → Value} (h : (o1i nx c f).1) : ∃ pc L x S σ, c = (pc, L, .int x :: S, σ) := by
  unfold o1i at h
  split at h
  · exact ⟨_, _, _, _, _, rfl⟩
  · exact h.elim
theorem o1l_inv {nx : Nat} {c : Cf} {f : Int64 → Value} (h : (o1l nx c f).1) : ∃ pc L x S σ, c = (pc, L, .long x :: S, σ) := by
  unfold o1l at h
  split at h
  · exact ⟨_, _, _, _, _, rfl⟩
  · exact h.elim
theorem odi_inv {nx : Nat} {c : Cf} {f : Int32 → Int32 → Value} (h : (odi nx c f).1) : ∃ pc L x y S σ, c = (pc, L, .int y :: .int x :: S, σ) := by
  unfold odi at h
  split at h
  · exact ⟨_, _, _, _, _, _, rfl⟩
  · exact h.elim
theorem odl_inv {nx : Nat} {c : Cf} {f : Int64 → Int64 → Value} (h : (odl nx c f).1) : ∃ pc L x y S σ, c = (pc, L, .long y :: .long x :: S, σ) := by
  unfold odl at h
  split at h
  · exact ⟨_, _, _, _, _, _, rfl⟩
  · exact h.elim
theorem l46 {x : Nat} (h : x < 24) : x < 46 := by omega
theorem l46i {x : Nat} (h : x = 41 ∨ x = 42) : x < 46 := by omega
theorem l46a {x : Nat} (h : x < 40) : x < 46 := by omega
theorem l48 {x : Nat} (h : x = 41 ∨ x = 42) : ¬ 48 = x := by omega
theorem n41 {x : Nat} (h : x < 40) : ¬ (x = 41 ∨ x = 42) := by omega
theorem a20 {x : Nat} (h : x < 40) : ale x = 20 := if_pos h
theorem rl_efv (i k : Nat) : rl ad (efv i k) = efv i k := by
  unfold efv
  split <;> rfl
theorem vk_getfN {cc : ByteArray} {pc : Nat} {ls : Array Slot} {rest : List Value} (hexec : p.tables.exec = Jvm.exec) (hb : cd.code = cc) {o n d own ref host : String} {index q : Nat} {v : Value} (hE : va_OF o n d v q A s s.heap) (hS : va_S A s.heap H locs) (hown : s.vm.findClass own = some mm.cls) (hlink : (Cond.fieldLinkNest own index ref n d host).before args s = true) (hsame : ∀ x, s.fieldFound? o n d = some x → s.fieldFound? ref n d = some x) (hdg : decode cc pc = .ok (.getfield index, 3))
    (kk : W p l e R s mm args below meth cd H locs cells slots Q (F0 mm (pc + 3) ls (v :: rest))) : W p l e R s mm args below meth cd H locs cells slots Q (F0 mm pc ls (.ref q :: rest)) := by
  obtain ⟨cf, k, fi, f, cell, h1, h2, h3, h4, h5, h6⟩ := hE.kept hS.2.1
  exact va_Wgetf hexec hb hown hlink (hsame _ h1) h2 h3 h4 (v := v) h5 rfl rfl hdg kk
set_option maxHeartbeats 4000000 in
theorem stp_sound {r : Row} {c : Cf} {ls : Array Slot} (hC : Cx p l s mm args meth cd m) (hK : va_K D cls9 (tys9 cI cJ) s) (hKs : Ks ad N xs A s s.heap) (hp : r.1 = c.1) (hr : rok m r = true) (hk : knd r = 0 ∨ (knd r = 4 ∧ 1 ≤ R.frames ∧ 37 ≤ R.locals ∧ cells ≤ R.cells ∧ slots ≤ R.slots)) (h1 : (stp r c).1)
    (kk : Kt p l e R s mm args below meth cd cells slots Q D ad cI cJ N xs A m (stp r c).2) (hWd : Wd D ad cI cJ N xs A c.2.2.2 H) (hS : va_S A s.heap H locs) (hL : LH ad ls (mxl m) c.2.1) :
    W p l e R s mm args below meth cd H locs cells slots Q (F0 mm c.1 ls (c.2.2.1.map (rl ad))) := by
  obtain ⟨hx, hb, hrt, hml, hown, hts, hlocks, htab, hst⟩ := hC
  obtain ⟨pc, nx, i, a, b, w, vi, vl⟩ := r
  obtain ⟨hd, hn⟩ := rok_d hr
  have hd0 := hd
  obtain ⟨pc', L, S, σ⟩ := c
  simp only at hp
  subst hp
  dsimp only at hWd hL ⊢
  have step : ∀ k, iln i = k → isw i = false → nx = pc + k ∧ decode (mby m) pc = .ok (i, k) := by
    intro k hk9 hw9
    have e : nx = pc + k := by
      rcases hn with h | h
      · rw [hw9] at h; cases h
      · rw [h, hk9]
    refine ⟨e, ?_⟩
    rw [hd, e, Nat.add_sub_cancel_left]
  cases i with
  | iconst n =>
    obtain ⟨e9, hd8⟩ := step 1 rfl rfl
    clear step hd0 hd hn
    subst e9
    have hd := hd8
    simp only [rok, Bool.and_eq_true, Bool.or_eq_true, decide_eq_true_eq] at hr
    exact lv_iconst (v := vi) hx hb hd hr.2 (kk H locs ls hWd hS hL)
  | bipush n =>
    obtain ⟨e9, hd8⟩ := step 2 rfl rfl
    clear step hd0 hd hn
    subst e9
    have hd := hd8
    simp only [rok, Bool.and_eq_true, Bool.or_eq_true, decide_eq_true_eq] at hr
    exact lv_bipush (v := vi) hx hb hd hr.2 (kk H locs ls hWd hS hL)
  | sipush n =>
    obtain ⟨e9, hd8⟩ := step 3 rfl rfl
    clear step hd0 hd hn
    subst e9
    have hd := hd8
    simp only [rok, Bool.and_eq_true, Bool.or_eq_true, decide_eq_true_eq] at hr
    exact lv_sipush (v := vi) hx hb hd hr.2 (kk H locs ls hWd hS hL)
  | lconst n =>
    obtain ⟨e9, hd8⟩ := step 1 rfl rfl
    clear step hd0 hd hn
    subst e9
    have hd := hd8
    simp only [rok, Bool.and_eq_true, Bool.or_eq_true, decide_eq_true_eq] at hr
    exact lv_lconst (v := vl) hx hb hd hr.2 (kk H locs ls hWd hS hL)
  | ldc n =>
    obtain ⟨e9, hd8⟩ := step 2 rfl rfl
    clear step hd0 hd hn
    subst e9
    have hd := hd8
    simp only [rok, Bool.and_eq_true, Bool.or_eq_true, decide_eq_true_eq] at hr
    exact lv_ldc (v := vi) hx hb hown (hts _ (gtb_of (tis_mem hr.2) rfl)) hd (kk H locs ls hWd hS hL)
  | ldc2_w n =>
    obtain ⟨e9, hd8⟩ := step 3 rfl rfl
    clear step hd0 hd hn
    subst e9
    have hd := hd8
    simp only [rok, Bool.and_eq_true, Bool.or_eq_true, decide_eq_true_eq] at hr
    exact lv_ldc2 (v := vl) hx hb hown (hts _ (gtb_of (tis_mem hr.2) rfl)) hd (kk H locs ls hWd hS hL)
  | iload_n n =>
    obtain ⟨e9, hd8⟩ := step 1 rfl rfl
    clear step hd0 hd hn
    subst e9
    have hd := hd8
    simp only [rok, Bool.and_eq_true, Bool.or_eq_true, decide_eq_true_eq] at hr
    simp only [stp] at h1 kk
    split at h1
    · rename_i x hx1
      simp only [hx1] at kk
      exact lv_iload_n hx hb hd hr.2.1 (hL.2.2.2 a _ hx1) (kk H locs ls hWd hS hL)
    · exact h1.elim
  | iload n =>
    obtain ⟨e9, hd8⟩ := step 2 rfl rfl
    clear step hd0 hd hn
    subst e9
    have hd := hd8
    simp only [rok, Bool.and_eq_true, Bool.or_eq_true, decide_eq_true_eq] at hr
    simp only [stp] at h1 kk
    split at h1
    · rename_i x hx1
      simp only [hx1] at kk
      have e1 := hr.2.1
      subst e1
      exact lv_iload hx hb hd (hL.2.2.2 n _ hx1) (kk H locs ls hWd hS hL)
    · exact h1.elim
  | lload_n n =>
    obtain ⟨e9, hd8⟩ := step 1 rfl rfl
    clear step hd0 hd hn
    subst e9
    have hd := hd8
    simp only [rok, Bool.and_eq_true, Bool.or_eq_true, decide_eq_true_eq] at hr
    simp only [stp] at h1 kk
    split at h1
    · rename_i x hx1
      simp only [hx1] at kk
      exact lv_lload_n hx hb hd hr.2.1 (hL.2.2.2 a _ hx1) (kk H locs ls hWd hS hL)
    · exact h1.elim
  | lload n =>
    obtain ⟨e9, hd8⟩ := step 2 rfl rfl
    clear step hd0 hd hn
    subst e9
    have hd := hd8
    simp only [rok, Bool.and_eq_true, Bool.or_eq_true, decide_eq_true_eq] at hr
    simp only [stp] at h1 kk
    split at h1
    · rename_i x hx1
      simp only [hx1] at kk
      have e1 := hr.2.1
      subst e1
      exact lv_lload hx hb hd (hL.2.2.2 n _ hx1) (kk H locs ls hWd hS hL)
    · exact h1.elim
  | aload_n n =>
    obtain ⟨e9, hd8⟩ := step 1 rfl rfl
    clear step hd0 hd hn
    subst e9
    have hd := hd8
    simp only [rok, Bool.and_eq_true, Bool.or_eq_true, decide_eq_true_eq] at hr
    simp only [stp] at h1 kk
    split at h1
    · rename_i x hx1
      simp only [hx1] at kk
      exact lv_aload_n hx hb hd hr.2.1 (hL.2.2.2 a _ hx1) (kk H locs ls hWd hS hL)
    · exact h1.elim
  | aload n =>
    obtain ⟨e9, hd8⟩ := step 2 rfl rfl
    clear step hd0 hd hn
    subst e9
    have hd := hd8
    simp only [rok, Bool.and_eq_true, Bool.or_eq_true, decide_eq_true_eq] at hr
    simp only [stp] at h1 kk
    split at h1
    · rename_i x hx1
      simp only [hx1] at kk
      have e1 := hr.2.1
      subst e1
      exact lv_aload hx hb hd (hL.2.2.2 n _ hx1) (kk H locs ls hWd hS hL)
    · exact h1.elim
  | istore_n n =>
    obtain ⟨e9, hd8⟩ := step 1 rfl rfl
    clear step hd0 hd hn
    subst e9
    have hd := hd8
    simp only [rok, Bool.and_eq_true, Bool.or_eq_true, decide_eq_true_eq] at hr
    have hS1 : ∃ x S1, S = .int x :: S1 := by
      simp only [stp] at h1
      split at h1
      · rename_i heq
        cases heq
        exact ⟨_, _, rfl⟩
      · exact h1.elim
    obtain ⟨x, S1, rfl⟩ := hS1
    exact lv_istore_n hx hb hd hr.2.1 hL.has hr.2.2 rfl (fun ls1 hl1 => kk H locs ls1 hWd hS (LH.of hl1 ((st1_len _ _ _).trans hL.2.2.1) (fun k v h => st1_mem h)))
  | istore n =>
    obtain ⟨e9, hd8⟩ := step 2 rfl rfl
    clear step hd0 hd hn
    subst e9
    have hd := hd8
    simp only [rok, Bool.and_eq_true, Bool.or_eq_true, decide_eq_true_eq] at hr
    have hS1 : ∃ x S1, S = .int x :: S1 := by
      simp only [stp] at h1
      split at h1
      · rename_i heq
        cases heq
        exact ⟨_, _, rfl⟩
      · exact h1.elim
    obtain ⟨x, S1, rfl⟩ := hS1
    have e1 := hr.2.1
    subst e1
    exact lv_istore hx hb hd hL.has hr.2.2 rfl (fun ls1 hl1 => kk H locs ls1 hWd hS (LH.of hl1 ((st1_len _ _ _).trans hL.2.2.1) (fun k v h => st1_mem h)))
  | lstore_n n =>
    obtain ⟨e9, hd8⟩ := step 1 rfl rfl
    clear step hd0 hd hn
    subst e9
    have hd := hd8
    simp only [rok, Bool.and_eq_true, Bool.or_eq_true, decide_eq_true_eq] at hr
    have hS1 : ∃ x S1, S = .long x :: S1 := by
      simp only [stp] at h1
      split at h1
      · rename_i heq
        cases heq
        exact ⟨_, _, rfl⟩
      · exact h1.elim
    obtain ⟨x, S1, rfl⟩ := hS1
    exact lv_lstore_n hx hb hd hr.2.1 hL.has hr.2.2 rfl (fun ls1 hl1 => kk H locs ls1 hWd hS (LH.of hl1 ((st2_len _ _ _).trans hL.2.2.1) (fun k v h => st2_mem h)))
  | lstore n =>
    obtain ⟨e9, hd8⟩ := step 2 rfl rfl
    clear step hd0 hd hn
    subst e9
    have hd := hd8
    simp only [rok, Bool.and_eq_true, Bool.or_eq_true, decide_eq_true_eq] at hr
    have hS1 : ∃ x S1, S = .long x :: S1 := by
      simp only [stp] at h1
      split at h1
      · rename_i heq
        cases heq
        exact ⟨_, _, rfl⟩
      · exact h1.elim
    obtain ⟨x, S1, rfl⟩ := hS1
    have e1 := hr.2.1
    subst e1
    exact lv_lstore hx hb hd hL.has hr.2.2 rfl (fun ls1 hl1 => kk H locs ls1 hWd hS (LH.of hl1 ((st2_len _ _ _).trans hL.2.2.1) (fun k v h => st2_mem h)))
  | astore_n n =>
    obtain ⟨e9, hd8⟩ := step 1 rfl rfl
    clear step hd0 hd hn
    subst e9
    have hd := hd8
    simp only [rok, Bool.and_eq_true, Bool.or_eq_true, decide_eq_true_eq] at hr
    have hS1 : ∃ x S1, S = .ref x :: S1 := by
      simp only [stp] at h1
      split at h1
      · rename_i heq
        cases heq
        exact ⟨_, _, rfl⟩
      · exact h1.elim
    obtain ⟨x, S1, rfl⟩ := hS1
    exact lv_astore_n hx hb hd hr.2.1 hL.has hr.2.2 rfl (fun ls1 hl1 => kk H locs ls1 hWd hS (LH.of hl1 ((st1_len _ _ _).trans hL.2.2.1) (fun k v h => st1_mem h)))
  | astore n =>
    obtain ⟨e9, hd8⟩ := step 2 rfl rfl
    clear step hd0 hd hn
    subst e9
    have hd := hd8
    simp only [rok, Bool.and_eq_true, Bool.or_eq_true, decide_eq_true_eq] at hr
    have hS1 : ∃ x S1, S = .ref x :: S1 := by
      simp only [stp] at h1
      split at h1
      · rename_i heq
        cases heq
        exact ⟨_, _, rfl⟩
      · exact h1.elim
    obtain ⟨x, S1, rfl⟩ := hS1
    have e1 := hr.2.1
    subst e1
    exact lv_astore hx hb hd hL.has hr.2.2 rfl (fun ls1 hl1 => kk H locs ls1 hWd hS (LH.of hl1 ((st1_len _ _ _).trans hL.2.2.1) (fun k v h => st1_mem h)))
  | iinc n q =>
    obtain ⟨e9, hd8⟩ := step 3 rfl rfl
    clear step hd0 hd hn
    subst e9
    have hd := hd8
    simp only [rok, Bool.and_eq_true, Bool.or_eq_true, decide_eq_true_eq] at hr
    obtain ⟨⟨e1, e2⟩, e3⟩ := hr.2
    subst e1
    simp only [stp] at h1 kk
    split at h1
    · rename_i x hx1
      simp only [hx1] at kk
      have hm : (n, Value.int x) ∈ asc ad L := asc_mem.mpr ⟨_, hx1, rfl⟩
      obtain ⟨k9, hk9⟩ := List.getElem?_of_mem hm
      have hlt : n < mxl m := by rw [← hL.2.2.1]; exact (List.getElem?_eq_some_iff.mp hx1).1
      exact lv_iinc (v := x + vi) hx hb hd hL.has hk9 (by rw [e2]) hlt rfl (fun ls1 hl1 => kk H locs ls1 hWd hS (LH.of hl1 ((st1_len _ _ _).trans hL.2.2.1) (fun k v h => st1_mem h)))
    · exact h1.elim
  | iadd =>
    obtain ⟨e9, hd8⟩ := step 1 rfl rfl
    clear step hd0 hd hn
    subst e9
    have hd := hd8
    obtain ⟨_, _, x, y, S1, _, e0⟩ := o2i_inv h1
    cases e0
    exact lv_iadd hx hb hd (kk H locs ls hWd hS hL)
  | isub =>
    obtain ⟨e9, hd8⟩ := step 1 rfl rfl
    clear step hd0 hd hn
    subst e9
    have hd := hd8
    obtain ⟨_, _, x, y, S1, _, e0⟩ := o2i_inv h1
    cases e0
    exact lv_isub hx hb hd (kk H locs ls hWd hS hL)
  | imul =>
    obtain ⟨e9, hd8⟩ := step 1 rfl rfl
    clear step hd0 hd hn
    subst e9
    have hd := hd8
    obtain ⟨_, _, x, y, S1, _, e0⟩ := o2i_inv h1
    cases e0
    exact lv_imul hx hb hd (kk H locs ls hWd hS hL)
  | iand =>
    obtain ⟨e9, hd8⟩ := step 1 rfl rfl
    clear step hd0 hd hn
    subst e9
    have hd := hd8
    obtain ⟨_, _, x, y, S1, _, e0⟩ := o2i_inv h1
    cases e0
    exact lv_iand hx hb hd (kk H locs ls hWd hS hL)
  | ior =>
    obtain ⟨e9, hd8⟩ := step 1 rfl rfl
    clear step hd0 hd hn
    subst e9
    have hd := hd8
    obtain ⟨_, _, x, y, S1, _, e0⟩ := o2i_inv h1
    cases e0
    exact lv_ior hx hb hd (kk H locs ls hWd hS hL)
  | ishr =>
    obtain ⟨e9, hd8⟩ := step 1 rfl rfl
    clear step hd0 hd hn
    subst e9
    have hd := hd8
    obtain ⟨_, _, x, y, S1, _, e0⟩ := o2i_inv h1
    cases e0
    exact lv_ishr hx hb hd (kk H locs ls hWd hS hL)
  | iushr =>
    obtain ⟨e9, hd8⟩ := step 1 rfl rfl
    clear step hd0 hd hn
    subst e9
    have hd := hd8
    obtain ⟨_, _, x, y, S1, _, e0⟩ := o2i_inv h1
    cases e0
    exact lv_iushr hx hb hd rfl (kk H locs ls hWd hS hL)
  | idiv =>
    obtain ⟨e9, hd8⟩ := step 1 rfl rfl
    clear step hd0 hd hn
    subst e9
    have hd := hd8
    obtain ⟨_, _, x, y, S1, _, e0⟩ := odi_inv h1
    cases e0
    exact lv_idiv hx hb hd h1 (kk H locs ls hWd hS hL)
  | irem =>
    obtain ⟨e9, hd8⟩ := step 1 rfl rfl
    clear step hd0 hd hn
    subst e9
    have hd := hd8
    obtain ⟨_, _, x, y, S1, _, e0⟩ := odi_inv h1
    cases e0
    exact lv_irem hx hb hd h1 (kk H locs ls hWd hS hL)
  | ladd =>
    obtain ⟨e9, hd8⟩ := step 1 rfl rfl
    clear step hd0 hd hn
    subst e9
    have hd := hd8
    obtain ⟨_, _, x, y, S1, _, e0⟩ := o2l_inv h1
    cases e0
    exact lv_ladd hx hb hd (kk H locs ls hWd hS hL)
  | lsub =>
    obtain ⟨e9, hd8⟩ := step 1 rfl rfl
    clear step hd0 hd hn
    subst e9
    have hd := hd8
    obtain ⟨_, _, x, y, S1, _, e0⟩ := o2l_inv h1
    cases e0
    exact lv_lsub hx hb hd (kk H locs ls hWd hS hL)
  | lmul =>
    obtain ⟨e9, hd8⟩ := step 1 rfl rfl
    clear step hd0 hd hn
    subst e9
    have hd := hd8
    obtain ⟨_, _, x, y, S1, _, e0⟩ := o2l_inv h1
    cases e0
    exact lv_lmul hx hb hd (kk H locs ls hWd hS hL)
  | land =>
    obtain ⟨e9, hd8⟩ := step 1 rfl rfl
    clear step hd0 hd hn
    subst e9
    have hd := hd8
    obtain ⟨_, _, x, y, S1, _, e0⟩ := o2l_inv h1
    cases e0
    exact lv_land hx hb hd (kk H locs ls hWd hS hL)
  | lor =>
    obtain ⟨e9, hd8⟩ := step 1 rfl rfl
    clear step hd0 hd hn
    subst e9
    have hd := hd8
    obtain ⟨_, _, x, y, S1, _, e0⟩ := o2l_inv h1
    cases e0
    exact lv_lor hx hb hd (kk H locs ls hWd hS hL)
  | lxor =>
    obtain ⟨e9, hd8⟩ := step 1 rfl rfl
    clear step hd0 hd hn
    subst e9
    have hd := hd8
    obtain ⟨_, _, x, y, S1, _, e0⟩ := o2l_inv h1
    cases e0
    exact lv_lxor hx hb hd (kk H locs ls hWd hS hL)
  | lcmp =>
    obtain ⟨e9, hd8⟩ := step 1 rfl rfl
    clear step hd0 hd hn
    subst e9
    have hd := hd8
    obtain ⟨_, _, x, y, S1, _, e0⟩ := o2l_inv h1
    cases e0
    exact W.lcmp hx hb hd (kk H locs ls hWd hS hL)
  | ldiv =>
    obtain ⟨e9, hd8⟩ := step 1 rfl rfl
    clear step hd0 hd hn
    subst e9
    have hd := hd8
    obtain ⟨_, _, x, y, S1, _, e0⟩ := odl_inv h1
    cases e0
    exact lv_ldiv hx hb hd h1 (kk H locs ls hWd hS hL)
  | lrem =>
    obtain ⟨e9, hd8⟩ := step 1 rfl rfl
    clear step hd0 hd hn
    subst e9
    have hd := hd8
    obtain ⟨_, _, x, y, S1, _, e0⟩ := odl_inv h1
    cases e0
    exact lv_lrem hx hb hd h1 (kk H locs ls hWd hS hL)
  | lshl =>
    obtain ⟨e9, hd8⟩ := step 1 rfl rfl
    clear step hd0 hd hn
    subst e9
    have hd := hd8
    obtain ⟨_, _, x, y, S1, _, e0⟩ := osl_inv h1
    cases e0
    exact lv_lshl hx hb hd rfl (kk H locs ls hWd hS hL)
  | lshr =>
    obtain ⟨e9, hd8⟩ := step 1 rfl rfl
    clear step hd0 hd hn
    subst e9
    have hd := hd8
    obtain ⟨_, _, x, y, S1, _, e0⟩ := osl_inv h1
    cases e0
    exact lv_lshr hx hb hd rfl (kk H locs ls hWd hS hL)
  | lushr =>
    obtain ⟨e9, hd8⟩ := step 1 rfl rfl
    clear step hd0 hd hn
    subst e9
    have hd := hd8
    obtain ⟨_, _, x, y, S1, _, e0⟩ := osl_inv h1
    cases e0
    exact lv_lushr hx hb hd rfl (kk H locs ls hWd hS hL)
  | ineg =>
    obtain ⟨e9, hd8⟩ := step 1 rfl rfl
    clear step hd0 hd hn
    subst e9
    have hd := hd8
    obtain ⟨_, _, x, S1, _, e0⟩ := o1i_inv h1
    cases e0
    exact lv_ineg hx hb hd (kk H locs ls hWd hS hL)
  | lneg =>
    obtain ⟨e9, hd8⟩ := step 1 rfl rfl
    clear step hd0 hd hn
    subst e9
    have hd := hd8
    obtain ⟨_, _, x, S1, _, e0⟩ := o1l_inv h1
    cases e0
    exact lv_lneg hx hb hd (kk H locs ls hWd hS hL)
  | i2l =>
    obtain ⟨e9, hd8⟩ := step 1 rfl rfl
    clear step hd0 hd hn
    subst e9
    have hd := hd8
    obtain ⟨_, _, x, S1, _, e0⟩ := o1i_inv h1
    cases e0
    exact lv_i2l hx hb hd rfl (kk H locs ls hWd hS hL)
  | i2b =>
    obtain ⟨e9, hd8⟩ := step 1 rfl rfl
    clear step hd0 hd hn
    subst e9
    have hd := hd8
    obtain ⟨_, _, x, S1, _, e0⟩ := o1i_inv h1
    cases e0
    exact lv_i2b hx hb hd rfl (kk H locs ls hWd hS hL)
  | i2s =>
    obtain ⟨e9, hd8⟩ := step 1 rfl rfl
    clear step hd0 hd hn
    subst e9
    have hd := hd8
    obtain ⟨_, _, x, S1, _, e0⟩ := o1i_inv h1
    cases e0
    exact lv_i2s hx hb hd rfl (kk H locs ls hWd hS hL)
  | i2c =>
    obtain ⟨e9, hd8⟩ := step 1 rfl rfl
    clear step hd0 hd hn
    subst e9
    have hd := hd8
    obtain ⟨_, _, x, S1, _, e0⟩ := o1i_inv h1
    cases e0
    exact lv_i2c hx hb hd rfl (kk H locs ls hWd hS hL)
  | l2i =>
    obtain ⟨e9, hd8⟩ := step 1 rfl rfl
    clear step hd0 hd hn
    subst e9
    have hd := hd8
    obtain ⟨_, _, x, S1, _, e0⟩ := o1l_inv h1
    cases e0
    exact lv_l2i hx hb hd rfl (kk H locs ls hWd hS hL)
  | dup2 =>
    obtain ⟨e9, hd8⟩ := step 1 rfl rfl
    clear step hd0 hd hn
    subst e9
    have hd := hd8
    have hS1 : ∃ y x S1, S = .int y :: .ref x :: S1 := by
      simp only [stp] at h1
      split at h1
      · rename_i heq
        cases heq
        exact ⟨_, _, _, rfl⟩
      · exact h1.elim
    obtain ⟨y, x, S1, rfl⟩ := hS1
    exact lv_dup2_11 hx hb hd rfl rfl (kk H locs ls hWd hS hL)
  | dup =>
    obtain ⟨e9, hd8⟩ := step 1 rfl rfl
    clear step hd0 hd hn
    subst e9
    have hd := hd8
    have hS1 : (∃ x S1, S = .ref x :: S1) ∨ ∃ x S1, S = .int x :: S1 := by
      simp only [stp] at h1
      split at h1
      · rename_i heq
        cases heq
        exact Or.inl ⟨_, _, rfl⟩
      · rename_i heq
        cases heq
        exact Or.inr ⟨_, _, rfl⟩
      · exact h1.elim
    rcases hS1 with ⟨x, S1, rfl⟩ | ⟨x, S1, rfl⟩
    · exact lv_dup hx hb hd rfl (kk H locs ls hWd hS hL)
    · exact lv_dup hx hb hd rfl (kk H locs ls hWd hS hL)
  | ifCond k off =>
    obtain ⟨e9, hd8⟩ := step 3 rfl rfl
    clear step hd0 hd hn
    subst e9
    have hd := hd8
    simp only [rok, Bool.and_eq_true, Bool.or_eq_true, decide_eq_true_eq] at hr
    have hS1 : ∃ x S1, S = .int x :: S1 := by
      simp only [stp] at h1
      split at h1
      · rename_i heq
        cases heq
        exact ⟨_, _, rfl⟩
      · exact h1.elim
    obtain ⟨x, S1, rfl⟩ := hS1
    have ht := hr.2.1
    cases k with
    | eq =>
      refine lv_if_eq hx hb hd ht (fun h => ?_) (fun h => ?_)
      · have e : brn .eq x 0 a (pc + 3) = a := if_pos h
        have q := kk H locs ls hWd hS hL
        simp only [stp, e] at q
        exact q
      · have e : brn .eq x 0 a (pc + 3) = pc + 3 := if_neg h
        have q := kk H locs ls hWd hS hL
        simp only [stp, e] at q
        exact q
    | ne =>
      refine lv_if_ne hx hb hd ht (fun h => ?_) (fun h => ?_)
      · have e : brn .ne x 0 a (pc + 3) = a := if_neg h
        have q := kk H locs ls hWd hS hL
        simp only [stp, e] at q
        exact q
      · have e : brn .ne x 0 a (pc + 3) = pc + 3 := if_pos h
        have q := kk H locs ls hWd hS hL
        simp only [stp, e] at q
        exact q
    | lt =>
      refine lv_if_lt hx hb hd ht (fun h => ?_) (fun h => ?_)
      · have e : brn .lt x 0 a (pc + 3) = a := if_pos h
        have q := kk H locs ls hWd hS hL
        simp only [stp, e] at q
        exact q
      · have e : brn .lt x 0 a (pc + 3) = pc + 3 := if_neg h
        have q := kk H locs ls hWd hS hL
        simp only [stp, e] at q
        exact q
    | ge =>
      refine lv_if_ge hx hb hd ht (fun h => ?_) (fun h => ?_)
      · have e : brn .ge x 0 a (pc + 3) = a := if_pos h
        have q := kk H locs ls hWd hS hL
        simp only [stp, e] at q
        exact q
      · have e : brn .ge x 0 a (pc + 3) = pc + 3 := if_neg h
        have q := kk H locs ls hWd hS hL
        simp only [stp, e] at q
        exact q
    | gt =>
      refine lv_if_gt hx hb hd ht (fun h => ?_) (fun h => ?_)
      · have e : brn .gt x 0 a (pc + 3) = a := if_pos h
        have q := kk H locs ls hWd hS hL
        simp only [stp, e] at q
        exact q
      · have e : brn .gt x 0 a (pc + 3) = pc + 3 := if_neg h
        have q := kk H locs ls hWd hS hL
        simp only [stp, e] at q
        exact q
    | le =>
      refine lv_if_le hx hb hd ht (fun h => ?_) (fun h => ?_)
      · have e : brn .le x 0 a (pc + 3) = a := if_pos h
        have q := kk H locs ls hWd hS hL
        simp only [stp, e] at q
        exact q
      · have e : brn .le x 0 a (pc + 3) = pc + 3 := if_neg h
        have q := kk H locs ls hWd hS hL
        simp only [stp, e] at q
        exact q
  | if_icmp k off =>
    obtain ⟨e9, hd8⟩ := step 3 rfl rfl
    clear step hd0 hd hn
    subst e9
    have hd := hd8
    simp only [rok, Bool.and_eq_true, Bool.or_eq_true, decide_eq_true_eq] at hr
    have hS1 : ∃ y x S1, S = .int y :: .int x :: S1 := by
      simp only [stp] at h1
      split at h1
      · rename_i heq
        cases heq
        exact ⟨_, _, _, rfl⟩
      · exact h1.elim
    obtain ⟨y, x, S1, rfl⟩ := hS1
    have ht := hr.2.1
    cases k with
    | eq =>
      refine lv_icmp_eq hx hb hd ht (fun h => ?_) (fun h => ?_)
      · have e : brn .eq x y a (pc + 3) = a := if_pos h
        have q := kk H locs ls hWd hS hL
        simp only [stp, e] at q
        exact q
      · have e : brn .eq x y a (pc + 3) = pc + 3 := if_neg h
        have q := kk H locs ls hWd hS hL
        simp only [stp, e] at q
        exact q
    | ne =>
      refine lv_icmp_ne hx hb hd ht (fun h => ?_) (fun h => ?_)
      · have e : brn .ne x y a (pc + 3) = a := if_neg h
        have q := kk H locs ls hWd hS hL
        simp only [stp, e] at q
        exact q
      · have e : brn .ne x y a (pc + 3) = pc + 3 := if_pos h
        have q := kk H locs ls hWd hS hL
        simp only [stp, e] at q
        exact q
    | lt =>
      refine lv_icmp_lt hx hb hd ht (fun h => ?_) (fun h => ?_)
      · have e : brn .lt x y a (pc + 3) = a := if_pos h
        have q := kk H locs ls hWd hS hL
        simp only [stp, e] at q
        exact q
      · have e : brn .lt x y a (pc + 3) = pc + 3 := if_neg h
        have q := kk H locs ls hWd hS hL
        simp only [stp, e] at q
        exact q
    | ge =>
      refine lv_icmp_ge hx hb hd ht (fun h => ?_) (fun h => ?_)
      · have e : brn .ge x y a (pc + 3) = a := if_pos h
        have q := kk H locs ls hWd hS hL
        simp only [stp, e] at q
        exact q
      · have e : brn .ge x y a (pc + 3) = pc + 3 := if_neg h
        have q := kk H locs ls hWd hS hL
        simp only [stp, e] at q
        exact q
    | gt =>
      refine lv_icmp_gt hx hb hd ht (fun h => ?_) (fun h => ?_)
      · have e : brn .gt x y a (pc + 3) = a := if_pos h
        have q := kk H locs ls hWd hS hL
        simp only [stp, e] at q
        exact q
      · have e : brn .gt x y a (pc + 3) = pc + 3 := if_neg h
        have q := kk H locs ls hWd hS hL
        simp only [stp, e] at q
        exact q
    | le =>
      refine lv_icmp_le hx hb hd ht (fun h => ?_) (fun h => ?_)
      · have e : brn .le x y a (pc + 3) = a := if_pos h
        have q := kk H locs ls hWd hS hL
        simp only [stp, e] at q
        exact q
      · have e : brn .le x y a (pc + 3) = pc + 3 := if_neg h
        have q := kk H locs ls hWd hS hL
        simp only [stp, e] at q
        exact q
  | goto off =>
    obtain ⟨e9, hd8⟩ := step 3 rfl rfl
    clear step hd0 hd hn
    subst e9
    have hd := hd8
    simp only [rok, Bool.and_eq_true, Bool.or_eq_true, decide_eq_true_eq] at hr
    exact lv_goto hx hb hd hr.2.1 (kk H locs ls hWd hS hL)
  | tableswitch d lo hi os =>
    simp only [rok, Bool.and_eq_true, Bool.or_eq_true, decide_eq_true_eq] at hr
    have hS1 : ∃ x S1, S = .int x :: S1 := by
      simp only [stp] at h1
      split at h1
      · rename_i heq
        cases heq
        exact ⟨_, _, rfl⟩
      · exact h1.elim
    obtain ⟨x, S1, rfl⟩ := hS1
    obtain ⟨⟨ht, hsz⟩, hlh⟩ := hr.2
    simp only [tok, Bool.and_eq_true, decide_eq_true_eq] at ht
    have q := kk H locs ls hWd hS hL
    simp only [stp] at q
    by_cases hc : x.toInt < lo ∨ hi < x.toInt
    · have e : tsw pc d lo hi os x.toInt = ((pc : Int) + d).toNat := if_pos hc
      rw [e] at q
      exact lv_tableOut hx hb hd hc (by have := ht.1; omega) q
    · have e : tsw pc d lo hi os x.toInt = ((pc : Int) + os.getD (x.toInt - lo).toNat 0).toNat := if_neg hc
      rw [e] at q
      have hlt : (x.toInt - lo).toNat < os.size := by omega
      have hg : os[(x.toInt - lo).toNat]? = some (os.getD (x.toInt - lo).toNat 0) := by
        rw [Array.getElem?_eq_getElem hlt]
        simp [Array.getD, hlt]
      have h0 : 0 ≤ (pc : Int) + os.getD (x.toInt - lo).toNat 0 := by
        have h9 := Array.all_eq_true.mp ht.2 _ hlt
        simp only [decide_eq_true_eq] at h9
        simpa [Array.getD, hlt] using h9
      exact lv_tableIn hx hb hd (by omega) (by omega) hg (by omega) q
  | getfield n =>
    obtain ⟨e9, hd8⟩ := step 3 rfl rfl
    clear step hd0 hd hn
    subst e9
    have hd := hd8
    simp only [rok, Bool.and_eq_true, Bool.or_eq_true, decide_eq_true_eq] at hr
    have hS1 : ∃ x S1, S = .ref x :: S1 := by
      simp only [stp] at h1
      split at h1
      · rename_i heq
        cases heq
        exact ⟨_, _, rfl⟩
      · exact h1.elim
    obtain ⟨x, S1, rfl⟩ := hS1
    obtain ⟨⟨hka, hlk⟩, hb6⟩ := hr.2
    by_cases hb7 : b = 7
    · subst hb7
      simp only [stp, if_pos] at h1 kk
      have hE := (hKs.2.2.2.2.1 x h1).2 a hka
      have q := kk H locs ls hWd hS hL
      simp only [List.map_cons, rl_efv] at q
      rcases hlk with h | h
      · exact vk_getf hx hb hE hS hown (hts _ (gtb_of (tis_mem h) rfl)) (fun _ h9 => h9) hd q
      · exact vk_getfN hx hb hE hS hown (va_Nw.use rfl (hKs.1 _ (tis_mem h) rfl)) (fun _ h9 => h9) hd q
    · have hb6 : b < 6 := hb6.resolve_right hb7
      simp only [stp, if_neg hb7] at h1 kk
      obtain ⟨hx24, hkl⟩ := h1
      subst hkl
      have he : (wls ad cI cJ σ)[x]? = some (ad x, .inr (kls x, fvs ad σ x)) := by rw [wls_at (l46 hx24), cel_o hx24]
      have q := kk H locs ls hWd hS hL
      rcases hlk with h | h
      · exact va_get (D := D) hx hb hts (fld_in _ hb6) hown hK hWd.1 x he (cls9_at hb6) a hka (hts _ (gtb_of (tis_mem h) rfl)) (fun _ h9 => h9) (fvs_at hka) hd q
      · exact va_getN (D := D) hx hb hts (fld_in _ hb6) hown hK hWd.1 x he (cls9_at hb6) a hka (va_Nw.use rfl (hKs.1 _ (tis_mem h) rfl)) (fun _ h9 => h9) (fvs_at hka) hd q
  | putfield n =>
    obtain ⟨e9, hd8⟩ := step 3 rfl rfl
    clear step hd0 hd hn
    subst e9
    have hd := hd8
    simp only [rok, Bool.and_eq_true, Bool.or_eq_true, decide_eq_true_eq] at hr
    obtain ⟨⟨⟨⟨hka, hlk⟩, hb6⟩, hfin⟩, hft⟩ := hr.2
    have hS1 : (∃ v x S1, S = .int v :: .ref x :: S1) ∨ ∃ v x S1, S = .long v :: .ref x :: S1 := by
      simp only [stp] at h1
      split at h1
      · rename_i heq
        cases heq
        exact Or.inl ⟨_, _, _, rfl⟩
      · rename_i heq
        cases heq
        exact Or.inr ⟨_, _, _, rfl⟩
      · exact h1.elim
    rcases hS1 with ⟨v, x, S1, rfl⟩ | ⟨v, x, S1, rfl⟩
    · simp only [stp] at h1 kk
      obtain ⟨hx24, hkl, hf0⟩ := h1
      subst hkl
      have he : (wls ad cI cJ σ)[x]? = some (ad x, .inr (kls x, fvs ad σ x)) := by rw [wls_at (l46 hx24), cel_o hx24]
      obtain ⟨c1, c2⟩ := cel_sfi (ad := ad) (cI := cI) (cJ := cJ) (σ := σ) (v := v) hx24 hka hf0
      have hset := wls_set (ad := ad) (cI := cI) (cJ := cJ) (σ := σ) (l46 hx24) c1 (fun j h9 _ => c2 j h9)
      rcases hlk with h | h
      · refine va_put (D := D) (v := .int v) hx hb hts (fld_in _ hb6) (fty (kls x)) (fty_ok _ hb6) (fnm_ok _ hb6) hown hK hWd.1 hWd.2.1 hS x he (cls9_at hb6) a hka (hts _ (gtb_of (tis_mem h) rfl)) (fun _ h9 => h9) hfin (fty_i _ hb6 a hka hf0) rfl rfl (by rw [fvs_len]; exact hka) hd (fun H1 locs1 hP1 hD1 hS9 => ?_)
        rw [hset] at hP1 hD1
        exact kk H1 locs1 ls ⟨hP1, hD1, hWd.2.2.1, hWd.2.2.2⟩ hS9 hL
      · refine va_putN (D := D) (v := .int v) hx hb hts (fld_in _ hb6) (fty (kls x)) (fty_ok _ hb6) (fnm_ok _ hb6) hown hK hWd.1 hWd.2.1 hS x he (cls9_at hb6) a hka (va_Nw.use rfl (hKs.1 _ (tis_mem h) rfl)) (fun _ h9 => h9) hfin (fty_i _ hb6 a hka hf0) rfl rfl (by rw [fvs_len]; exact hka) hd (fun H1 locs1 hP1 hD1 hS9 => ?_)
        rw [hset] at hP1 hD1
        exact kk H1 locs1 ls ⟨hP1, hD1, hWd.2.2.1, hWd.2.2.2⟩ hS9 hL
    · simp only [stp] at h1 kk
      obtain ⟨hx24, hkl, hf0⟩ := h1
      subst hkl
      have he : (wls ad cI cJ σ)[x]? = some (ad x, .inr (kls x, fvs ad σ x)) := by rw [wls_at (l46 hx24), cel_o hx24]
      obtain ⟨c1, c2⟩ := cel_sfl (ad := ad) (cI := cI) (cJ := cJ) (σ := σ) (v := v) hx24 hka hf0
      have hset := wls_set (ad := ad) (cI := cI) (cJ := cJ) (σ := σ) (l46 hx24) c1 (fun j h9 _ => c2 j h9)
      rcases hlk with h | h
      · refine va_put (D := D) (v := .long v) hx hb hts (fld_in _ hb6) (fty (kls x)) (fty_ok _ hb6) (fnm_ok _ hb6) hown hK hWd.1 hWd.2.1 hS x he (cls9_at hb6) a hka (hts _ (gtb_of (tis_mem h) rfl)) (fun _ h9 => h9) hfin (fty_l _ hb6 a hka hf0) rfl rfl (by rw [fvs_len]; exact hka) hd (fun H1 locs1 hP1 hD1 hS9 => ?_)
        rw [hset] at hP1 hD1
        exact kk H1 locs1 ls ⟨hP1, hD1, hWd.2.2.1, hWd.2.2.2⟩ hS9 hL
      · refine va_putN (D := D) (v := .long v) hx hb hts (fld_in _ hb6) (fty (kls x)) (fty_ok _ hb6) (fnm_ok _ hb6) hown hK hWd.1 hWd.2.1 hS x he (cls9_at hb6) a hka (va_Nw.use rfl (hKs.1 _ (tis_mem h) rfl)) (fun _ h9 => h9) hfin (fty_l _ hb6 a hka hf0) rfl rfl (by rw [fvs_len]; exact hka) hd (fun H1 locs1 hP1 hD1 hS9 => ?_)
        rw [hset] at hP1 hD1
        exact kk H1 locs1 ls ⟨hP1, hD1, hWd.2.2.1, hWd.2.2.2⟩ hS9 hL
  | getstatic n =>
    obtain ⟨e9, hd8⟩ := step 3 rfl rfl
    clear step hd0 hd hn
    subst e9
    have hd := hd8
    simp only [rok, Bool.and_eq_true, Bool.or_eq_true, decide_eq_true_eq] at hr
    have q := kk H locs ls hWd hS hL
    rcases hr.2.1 with h | h
    · subst h
      simp only [if_pos] at hr
      exact va_gets hx hb hKs.2.2.2.1.1 hS hown (hts _ (gtb_of (tis_mem hr.2.2) rfl)) (fun _ h9 => h9) hd q
    · subst h
      have h2 := hr.2.2
      rw [if_neg (by decide)] at h2
      exact va_gets hx hb hKs.2.2.2.1.2 hS hown (hts _ (gtb_of (tis_mem h2) rfl)) (fun _ h9 => h9) hd q
  | iaload =>
    obtain ⟨e9, hd8⟩ := step 1 rfl rfl
    clear step hd0 hd hn
    subst e9
    have hd := hd8
    have hS1 : ∃ j x S1, S = .int j :: .ref x :: S1 := by
      simp only [stp] at h1
      split at h1
      · rename_i heq
        cases heq
        exact ⟨_, _, _, rfl⟩
      · exact h1.elim
    obtain ⟨j, x, S1, rfl⟩ := hS1
    by_cases h48 : x = 48
    · subst h48
      simp only [stp, if_pos] at h1 kk
      obtain ⟨g1, g2, g3⟩ := hKs.2.2.2.2.2.2
      have q := kk H locs ls hWd hS hL
      rw [hWd.2.2.1] at h1
      have e : gai σ 48 = xs := hWd.2.2.2
      simp only [List.map_cons, e] at q
      exact va_sld hx hb g1 g2 g3 hS h1 hd q
    · simp only [stp, if_neg h48] at h1 kk
      obtain ⟨hx1, hin⟩ := h1
      have he : (wls ad cI cJ σ)[x]? = some (ad x, .inl (cI, ale x, .inl (gai σ x))) := by rw [wls_at (l46i hx1), cel_i hx1]
      exact va_iald hx hb hK hWd.1 x 0 he rfl hin hd (kk H locs ls hWd hS hL)
  | laload =>
    obtain ⟨e9, hd8⟩ := step 1 rfl rfl
    clear step hd0 hd hn
    subst e9
    have hd := hd8
    have hS1 : ∃ j x S1, S = .int j :: .ref x :: S1 := by
      simp only [stp] at h1
      split at h1
      · rename_i heq
        cases heq
        exact ⟨_, _, _, rfl⟩
      · exact h1.elim
    obtain ⟨j, x, S1, rfl⟩ := hS1
    simp only [stp] at h1 kk
    obtain ⟨⟨g1, g2, g3⟩, hin⟩ := h1
    have he : (wls ad cI cJ σ)[x]? = some (ad x, .inl (cJ, ale x, .inr (.inl (gal σ x)))) := by rw [wls_at g2, cel_l g1 g3]
    exact va_lald hx hb hK hWd.1 x 1 he rfl hin hd (kk H locs ls hWd hS hL)
  | iastore =>
    obtain ⟨e9, hd8⟩ := step 1 rfl rfl
    clear step hd0 hd hn
    subst e9
    have hd := hd8
    have hS1 : ∃ v j x S1, S = .int v :: .int j :: .ref x :: S1 := by
      simp only [stp] at h1
      split at h1
      · rename_i heq
        cases heq
        exact ⟨_, _, _, _, rfl⟩
      · exact h1.elim
    obtain ⟨v, j, x, S1, rfl⟩ := hS1
    simp only [stp] at h1 kk
    obtain ⟨hx1, hin⟩ := h1
    have he : (wls ad cI cJ σ)[x]? = some (ad x, .inl (cI, ale x, .inl (gai σ x))) := by rw [wls_at (l46i hx1), cel_i hx1]
    obtain ⟨c1, c2⟩ := cel_sai (ad := ad) (cI := cI) (cJ := cJ) (σ := σ) (j := j.toNatClampNeg) (v := v) hx1
    have hset := wls_set (ad := ad) (cI := cI) (cJ := cJ) (σ := σ) (l46i hx1) c1 (fun j h9 _ => c2 j h9)
    refine va_iast hx hb hK hWd.1 hWd.2.1 hS x 0 he rfl hin hd (fun H1 locs1 hP1 hD1 hS9 => ?_)
    rw [hset] at hP1 hD1
    refine kk H1 locs1 ls ⟨hP1, hD1, hWd.2.2.1, ?_⟩ hS9 hL
    have e : gai (sai σ x j.toNatClampNeg v) 48 = gai σ 48 := by
      have : ¬ 48 = x := l48 hx1
      simp [gai, sai, this]
    rw [e]
    exact hWd.2.2.2
  | lastore =>
    obtain ⟨e9, hd8⟩ := step 1 rfl rfl
    clear step hd0 hd hn
    subst e9
    have hd := hd8
    have hS1 : ∃ v j x S1, S = .long v :: .int j :: .ref x :: S1 := by
      simp only [stp] at h1
      split at h1
      · rename_i heq
        cases heq
        exact ⟨_, _, _, _, rfl⟩
      · exact h1.elim
    obtain ⟨v, j, x, S1, rfl⟩ := hS1
    simp only [stp] at h1 kk
    obtain ⟨⟨g1, g2, g3⟩, hin⟩ := h1
    have he : (wls ad cI cJ σ)[x]? = some (ad x, .inl (cJ, ale x, .inr (.inl (gal σ x)))) := by rw [wls_at g2, cel_l g1 g3]
    obtain ⟨c1, c2⟩ := cel_sar (ad := ad) (cI := cI) (cJ := cJ) (σ := σ) (f := vp_updL (gal σ x) j.toNatClampNeg v) g1 g3
    have hset := wls_set (ad := ad) (cI := cI) (cJ := cJ) (σ := σ) g2 c1 (fun j h9 _ => c2 j h9)
    refine va_last hx hb hK hWd.1 hWd.2.1 hS x 1 he rfl hin hd (fun H1 locs1 hP1 hD1 hS9 => ?_)
    rw [hset] at hP1 hD1
    exact kk H1 locs1 ls ⟨hP1, hD1, hWd.2.2.1, hWd.2.2.2⟩ hS9 hL
  | arraylength =>
    obtain ⟨e9, hd8⟩ := step 1 rfl rfl
    clear step hd0 hd hn
    subst e9
    have hd := hd8
    have hS1 : ∃ x S1, S = .ref x :: S1 := by
      simp only [stp] at h1
      split at h1
      · rename_i heq
        cases heq
        exact ⟨_, _, rfl⟩
      · exact h1.elim
    obtain ⟨x, S1, rfl⟩ := hS1
    by_cases h48 : x = 48
    · subst h48
      simp only [stp, if_pos] at h1 kk
      obtain ⟨g1, g2, g3⟩ := hKs.2.2.2.2.2.2
      have q := kk H locs ls hWd hS hL
      have e : gsl σ = N := hWd.2.2.1
      simp only [List.map_cons, e] at q
      exact va_slen hx hb g1 g2 g3 hS hd q
    · simp only [stp, if_neg h48] at h1 kk
      by_cases hi : x = 41 ∨ x = 42
      · have he : (wls ad cI cJ σ)[x]? = some (ad x, .inl (cI, ale x, .inl (gai σ x))) := by rw [wls_at (l46i hi), cel_i hi]
        exact va_alen hx hb hK hWd.1 x 0 he rfl rfl hd (kk H locs ls hWd hS hL)
      · have he : (wls ad cI cJ σ)[x]? = some (ad x, .inl (cJ, ale x, .inr (.inl (gal σ x)))) := by rw [wls_at h1.2, cel_l h1.1 hi]
        exact va_alen hx hb hK hWd.1 x 1 he rfl rfl hd (kk H locs ls hWd hS hL)
  | invokestatic n =>
    obtain ⟨e9, hd8⟩ := step 3 rfl rfl
    clear step hd0 hd hn
    subst e9
    have hd := hd8
    simp only [rok, Bool.and_eq_true, Bool.or_eq_true, decide_eq_true_eq] at hr
    have ha9 : ¬ a < 900 := by
      intro ha
      simp only [knd, if_pos ha] at hk
      rcases hk with h | ⟨h, -⟩ <;> cases h
    have hkr : 1 ≤ R.frames ∧ 37 ≤ R.locals ∧ cells ≤ R.cells ∧ slots ≤ R.slots := by
      rcases hk with h | ⟨-, h⟩
      · simp only [knd, if_neg ha9] at h
        cases h
      · exact h
    have hlk := hr.2.2
    rw [if_neg ha9] at hlk
    have hmi : (Cond.initialized "java/lang/Math") ∈ gtb := by decide +kernel
    have hsz9 : cd.maxLocals = ls.size := by rw [hml]; exact hL.1.symm
    simp only [stp] at h1 kk
    by_cases h990 : a = 990
    · subst h990
      rw [if_pos rfl] at h1 kk hlk
      have hS1 : ∃ y x S1, S = .int y :: .int x :: S1 := by
        split at h1
        · rename_i heq
          cases heq
          exact ⟨_, _, _, rfl⟩
        · exact h1.elim
      obtain ⟨y, x, S1, rfl⟩ := hS1
      have hst9 : (Cond.static Lib.Math.min.name) ∈ gtb := by decide +kernel
      have hcd9 : (Cond.code Lib.Math.min.name Lib.Math.min.code 2 (some .int)) ∈ gtb := by decide +kernel
      exact va_mmin hx hb hsz9 hown (hts _ (gtb_of (tis_mem hlk) rfl)) (hts _ hst9) (hts _ hmi) (hts _ hcd9) hkr.1 (by rw [rl_sum]; have := hkr.2.1; have := (show (S1.map fun v => v.category).sum ≤ 8 from h1); omega) hkr.2.2.1 hkr.2.2.2 hd (kk H locs ls hWd hS hL)
    by_cases h991 : a = 991
    · subst h991
      rw [if_neg (by decide), if_pos rfl] at h1 kk hlk
      have hS1 : ∃ y x S1, S = .int y :: .int x :: S1 := by
        split at h1
        · rename_i heq
          cases heq
          exact ⟨_, _, _, rfl⟩
        · exact h1.elim
      obtain ⟨y, x, S1, rfl⟩ := hS1
      have hst9 : (Cond.static Lib.Math.max.name) ∈ gtb := by decide +kernel
      have hcd9 : (Cond.code Lib.Math.max.name Lib.Math.max.code 2 (some .int)) ∈ gtb := by decide +kernel
      exact va_mmax hx hb hsz9 hown (hts _ (gtb_of (tis_mem hlk) rfl)) (hts _ hst9) (hts _ hmi) (hts _ hcd9) hkr.1 (by rw [rl_sum]; have := hkr.2.1; have := (show (S1.map fun v => v.category).sum ≤ 8 from h1); omega) hkr.2.2.1 hkr.2.2.2 hd (kk H locs ls hWd hS hL)
    by_cases h992 : a = 992
    · subst h992
      rw [if_neg (by decide), if_neg (by decide), if_pos rfl] at h1 kk hlk
      have hS1 : ∃ x S1, S = .int x :: S1 := by
        split at h1
        · rename_i heq
          cases heq
          exact ⟨_, _, rfl⟩
        · exact h1.elim
      obtain ⟨x, S1, rfl⟩ := hS1
      have hst9 : (Cond.static Lib.Math.abs.name) ∈ gtb := by decide +kernel
      have hcd9 : (Cond.code Lib.Math.abs.name Lib.Math.abs.code 1 (some .int)) ∈ gtb := by decide +kernel
      exact va_mabs hx hb hsz9 hown (hts _ (gtb_of (tis_mem hlk) rfl)) (hts _ hst9) (hts _ hmi) (hts _ hcd9) hkr.1 (by rw [rl_sum]; have := hkr.2.1; have := (show (S1.map fun v => v.category).sum ≤ 8 from h1); omega) hkr.2.2.1 hkr.2.2.2 hd (kk H locs ls hWd hS hL)
    by_cases h993 : a = 993
    · subst h993
      rw [if_neg (by decide), if_neg (by decide), if_neg (by decide), if_pos rfl] at h1 kk hlk
      have hS1 : ∃ y x S1, S = .long y :: .long x :: S1 := by
        split at h1
        · rename_i heq
          cases heq
          exact ⟨_, _, _, rfl⟩
        · exact h1.elim
      obtain ⟨y, x, S1, rfl⟩ := hS1
      have hst9 : (Cond.static Lib.MathLoose.min_long.x) ∈ gtb := by decide +kernel
      have hcd9 : (Cond.code Lib.MathLoose.min_long.x Lib.MathLoose.min_long.code 4 (some .long)) ∈ gtb := by decide +kernel
      exact va_mmin_long hx hb hsz9 hown (hts _ (gtb_of (tis_mem hlk) rfl)) (hts _ hst9) (hts _ hmi) (hts _ hcd9) hkr.1 (by rw [rl_sum]; have := hkr.2.1; have := (show (S1.map fun v => v.category).sum ≤ 8 from h1); omega) hkr.2.2.1 hkr.2.2.2 hd (kk H locs ls hWd hS hL)
    by_cases h994 : a = 994
    · subst h994
      rw [if_neg (by decide), if_neg (by decide), if_neg (by decide), if_neg (by decide), if_pos rfl] at h1 kk hlk
      have hS1 : ∃ y x S1, S = .long y :: .long x :: S1 := by
        split at h1
        · rename_i heq
          cases heq
          exact ⟨_, _, _, rfl⟩
        · exact h1.elim
      obtain ⟨y, x, S1, rfl⟩ := hS1
      have hst9 : (Cond.static Lib.MathLoose.max_long.x) ∈ gtb := by decide +kernel
      have hcd9 : (Cond.code Lib.MathLoose.max_long.x Lib.MathLoose.max_long.code 4 (some .long)) ∈ gtb := by decide +kernel
      exact va_mmax_long hx hb hsz9 hown (hts _ (gtb_of (tis_mem hlk) rfl)) (hts _ hst9) (hts _ hmi) (hts _ hcd9) hkr.1 (by rw [rl_sum]; have := hkr.2.1; have := (show (S1.map fun v => v.category).sum ≤ 8 from h1); omega) hkr.2.2.1 hkr.2.2.2 hd (kk H locs ls hWd hS hL)
    by_cases h995 : a = 995
    · subst h995
      rw [if_neg (by decide), if_neg (by decide), if_neg (by decide), if_neg (by decide), if_neg (by decide), if_pos rfl] at h1 kk hlk
      have hS1 : ∃ x S1, S = .long x :: S1 := by
        split at h1
        · rename_i heq
          cases heq
          exact ⟨_, _, rfl⟩
        · exact h1.elim
      obtain ⟨x, S1, rfl⟩ := hS1
      have hst9 : (Cond.static Lib.MathLoose.abs_long.x) ∈ gtb := by decide +kernel
      have hcd9 : (Cond.code Lib.MathLoose.abs_long.x Lib.MathLoose.abs_long.code 2 (some .long)) ∈ gtb := by decide +kernel
      exact va_mabs_long hx hb hsz9 hown (hts _ (gtb_of (tis_mem hlk) rfl)) (hts _ hst9) (hts _ hmi) (hts _ hcd9) hkr.1 (by rw [rl_sum]; have := hkr.2.1; have := (show (S1.map fun v => v.category).sum ≤ 8 from h1); omega) hkr.2.2.1 hkr.2.2.2 hd (kk H locs ls hWd hS hL)
    rw [if_neg h990, if_neg h991, if_neg h992, if_neg h993, if_neg h994, if_neg h995] at h1 kk hlk
    have hS1 : ∃ n9 dp y sp x S1, S = .int n9 :: .int dp :: .ref y :: .int sp :: .ref x :: S1 := by
      split at h1
      · rename_i heq
        cases heq
        exact ⟨_, _, _, _, _, _, rfl⟩
      · exact h1.elim
    obtain ⟨n9, dp, y, sp, x, S1, rfl⟩ := hS1
    obtain ⟨⟨g1, g2⟩, ⟨g3, g4⟩, rfl, rfl, rfl, hsum⟩ := h1
    have he : (wls ad cI cJ σ)[x]? = some (ad x, .inl (cJ, ale x, .inr (.inl (gal σ x)))) := by rw [wls_at (l46a g2), cel_l g1 (n41 g2)]
    have he2 : (wls ad cI cJ σ)[y]? = some (ad y, .inl (cJ, ale y, .inr (.inl (gal σ y)))) := by rw [wls_at (l46a g4), cel_l g3 (n41 g4)]
    obtain ⟨c1, c2⟩ := cel_sar (ad := ad) (cI := cI) (cJ := cJ) (σ := σ) (f := va_cpy (gal σ x) (gal σ y) 0 0 20) g3 (n41 g4)
    have hset := wls_set (ad := ad) (cI := cI) (cJ := cJ) (σ := σ) (l46a g4) c1 (fun j h9 _ => c2 j h9)
    have hax : ale x = 20 := a20 g2
    have hay : ale y = 20 := a20 g4
    have hnat : (Cond.native arraycopyName) ∈ gtb := by decide +kernel
    have hsta : (Cond.static arraycopyName) ∈ gtb := by decide +kernel
    have hini : (Cond.initialized "java/lang/System") ∈ gtb := by decide +kernel
    refine va_copyl hx hb (by rw [hml]; exact hL.1.symm) hown (hts _ (gtb_of (tis_mem hlk) rfl)) (hts _ hnat) (hts _ hsta) (hts _ hini) hK hWd.1 hWd.2.1 hS x y 1 1 he he2 rfl rfl rfl (by decide) (by decide) (by decide) (by rw [hax]; decide) (by rw [hay]; decide) (fun i _ => rfl) hkr.1 ?_ hd (fun H1 locs1 hP1 hD1 hS9 => ?_)
    · rw [rl_sum]
      have e9 : nativeFrameWords "java/lang/System" "arraycopy" 5 = 7 := by decide
      rw [e9]
      have := hkr.2.1
      omega
    · have e0 : va_cpy (gal σ x) (gal σ y) (0 : Int32).toNatClampNeg (0 : Int32).toNatClampNeg (20 : Int32).toNatClampNeg = va_cpy (gal σ x) (gal σ y) 0 0 20 := rfl
      rw [e0, hset] at hP1 hD1
      exact kk H1 locs1 ls ⟨hP1, hD1, hWd.2.2.1, hWd.2.2.2⟩ hS9 hL
  | ireturn =>
    exact absurd hk (by simp [knd])
  | lreturn =>
    exact absurd hk (by simp [knd])
  | return_ =>
    exact absurd hk (by simp [knd])
  | invokevirtual n =>
    exact absurd hk (by simp [knd])
  | new n =>
    exact absurd hk (by simp [knd])
  | _ =>
    exact False.elim h1
end SND
