/-! the world as the kit tells it; locals -/
def rl (ad : Nat → Nat) : Value → Value
  | .ref i => .ref (ad i)
  | v => v
theorem rl_cat (ad : Nat → Nat) (v : Value) : (rl ad v).category = v.category := by cases v <;> rfl
theorem rl_sum (ad : Nat → Nat) (S : List Value) : ((S.map (rl ad)).map fun v => v.category).sum = (S.map fun v => v.category).sum := by
  rw [List.map_map]
  congr 1
  exact List.map_congr_left (fun v _ => rl_cat ad v)
abbrev cls9 : List vw_C := [(K0, T0, 7), (K1, T1, 3), (K2, T2, 2), (K3, T3, 3), (K4, T4, 10), (K5, T5, 10)]
theorem cls9_at {c : Nat} (h : c < 6) : cls9[c]? = some (fK c, fT c, nf c) := by
  match c, h with
  | 0, _ => rfl
  | 1, _ => rfl
  | 2, _ => rfl
  | 3, _ => rfl
  | 4, _ => rfl
  | 5, _ => rfl
def fvs (ad : Nat → Nat) (σ : St) (i : Nat) : List Value := (List.range (nf (kls i))).map (fun k => rl ad (avf σ i (kls i) k))
def cel (ad : Nat → Nat) (cI cJ : ClassId) (σ : St) (i : Nat) : va_E := if i < 24 then .inr (kls i, fvs ad σ i) else if i = 41 ∨ i = 42 then .inl (cI, ale i, .inl (gai σ i)) else .inl (cJ, ale i, .inr (.inl (gal σ i)))
def wls (ad : Nat → Nat) (cI cJ : ClassId) (σ : St) : va_W := (List.range 46).map (fun i => (ad i, cel ad cI cJ σ i))
theorem wls_at {ad : Nat → Nat} {cI cJ : ClassId} {σ : St} {i : Nat} (hi : i < 46) : (wls ad cI cJ σ)[i]? = some (ad i, cel ad cI cJ σ i) := by
  simp [wls, hi]
theorem wls_set {ad : Nat → Nat} {cI cJ : ClassId} {σ σ' : St} {i : Nat} (hi : i < 46) {e : va_E} (he : cel ad cI cJ σ' i = e) (ho : ∀ j, j ≠ i → j < 46 → cel ad cI cJ σ' j = cel ad cI cJ σ j) : (wls ad cI cJ σ).set i (ad i, e) = wls ad cI cJ σ' := by
  apply List.ext_getElem?
  intro j
  have hl : (wls ad cI cJ σ).length = 46 := by simp [wls]
  by_cases h : j < 46
  · rw [wls_at h]
    by_cases hj : i = j
    · subst hj
      rw [List.getElem?_set_self (by omega), he]
    · rw [List.getElem?_set_ne hj, wls_at h, ho j (Ne.symm hj) h]
  · rw [List.getElem?_eq_none (by rw [List.length_set]; omega), List.getElem?_eq_none (by simp [wls]; omega)]
theorem cel_o {ad : Nat → Nat} {cI cJ : ClassId} {σ : St} {i : Nat} (h : i < 24) : cel ad cI cJ σ i = .inr (kls i, fvs ad σ i) := if_pos h
theorem cel_i {ad : Nat → Nat} {cI cJ : ClassId} {σ : St} {i : Nat} (h : i = 41 ∨ i = 42) : cel ad cI cJ σ i = .inl (cI, ale i, .inl (gai σ i)) := by
  rw [cel, if_neg (by omega), if_pos h]
theorem cel_l {ad : Nat → Nat} {cI cJ : ClassId} {σ : St} {i : Nat} (h1 : 24 ≤ i) (h : ¬ (i = 41 ∨ i = 42)) : cel ad cI cJ σ i = .inl (cJ, ale i, .inr (.inl (gal σ i))) := by
  rw [cel, if_neg (by omega), if_neg h]
theorem fvs_at {ad : Nat → Nat} {σ : St} {i k : Nat} (h : k < nf (kls i)) : (fvs ad σ i)[k]? = some (rl ad (avf σ i (kls i) k)) := by simp [fvs, h]
theorem fvs_len {ad : Nat → Nat} {σ : St} {i : Nat} : (fvs ad σ i).length = nf (kls i) := by simp [fvs]
theorem fvs_set {ad : Nat → Nat} {σ σ' : St} {i k : Nat} {v : Value} (hk : k < nf (kls i)) (h : avf σ' i (kls i) k = v) (ho : ∀ j, j ≠ k → avf σ' i (kls i) j = avf σ i (kls i) j) : (fvs ad σ i).set k (rl ad v) = fvs ad σ' i := by
  apply List.ext_getElem?
  intro j
  by_cases hj : j < nf (kls i)
  · rw [fvs_at hj]
    by_cases e : k = j
    · subst e
      rw [List.getElem?_set_self (by rw [fvs_len]; exact hj), h]
    · rw [List.getElem?_set_ne e, fvs_at hj, ho j (Ne.symm e)]
  · rw [List.getElem?_eq_none (by rw [List.length_set, fvs_len]; omega), List.getElem?_eq_none (by rw [fvs_len]; omega)]
theorem kls_lt {i : Nat} (h : i < 24) : kls i < 6 := by
  have : ∀ j, j < 24 → kls j < 6 := by decide
  exact this i h
/-- behind a store of an int or a long field -/
theorem cel_sfi {ad : Nat → Nat} {cI cJ : ClassId} {σ : St} {i k : Nat} {v : Int32} (hi : i < 24) (hk : k < nf (kls i)) (ht : ft (kls i) k = 0) :
    cel ad cI cJ (sfi σ i k v) i = .inr (kls i, (fvs ad σ i).set k (.int v)) ∧ ∀ j, j ≠ i → cel ad cI cJ (sfi σ i k v) j = cel ad cI cJ σ j := by
  constructor
  · rw [cel_o hi]
    have h := fvs_set (ad := ad) (σ := σ) (σ' := sfi σ i k v) (i := i) (k := k) (v := .int v) hk (by simp [avf, ht, gfi, sfi]) (fun j hj => by simp [avf, gfi, gfl, sfi, hj])
    rw [← h]
    rfl
  · intro j hj
    unfold cel fvs avf
    simp [gfi, gfl, gai, gal, sfi, hj]
theorem cel_sfl {ad : Nat → Nat} {cI cJ : ClassId} {σ : St} {i k : Nat} {v : Int64} (hi : i < 24) (hk : k < nf (kls i)) (ht : ft (kls i) k = 1) :
    cel ad cI cJ (sfl σ i k v) i = .inr (kls i, (fvs ad σ i).set k (.long v)) ∧ ∀ j, j ≠ i → cel ad cI cJ (sfl σ i k v) j = cel ad cI cJ σ j := by
  constructor
  · rw [cel_o hi]
    have h := fvs_set (ad := ad) (σ := σ) (σ' := sfl σ i k v) (i := i) (k := k) (v := .long v) hk (by simp [avf, ht, gfl, sfl]) (fun j hj => by simp [avf, gfi, gfl, sfl, hj])
    rw [← h]
    rfl
  · intro j hj
    unfold cel fvs avf
    simp [gfi, gfl, gai, gal, sfl, hj]
theorem cel_sai {ad : Nat → Nat} {cI cJ : ClassId} {σ : St} {i j : Nat} {v : Int32} (hi : i = 41 ∨ i = 42) :
    cel ad cI cJ (sai σ i j v) i = .inl (cI, ale i, .inl (upd (gai σ i) j v)) ∧ ∀ a, a ≠ i → cel ad cI cJ (sai σ i j v) a = cel ad cI cJ σ a := by
  constructor
  · rw [cel_i hi]
    simp [gai, sai]
  · intro a ha
    unfold cel fvs avf
    simp [gfi, gfl, gai, gal, sai, ha]
theorem cel_sar {ad : Nat → Nat} {cI cJ : ClassId} {σ : St} {i : Nat} {f : Nat → Int64} (h1 : 24 ≤ i) (hi : ¬ (i = 41 ∨ i = 42)) :
    cel ad cI cJ (sar σ i f) i = .inl (cJ, ale i, .inr (.inl f)) ∧ ∀ a, a ≠ i → cel ad cI cJ (sar σ i f) a = cel ad cI cJ σ a := by
  constructor
  · rw [cel_l h1 hi]
    simp [gal, sar]
  · intro a ha
    unfold cel fvs avf
    simp [gfi, gfl, gai, gal, sar, ha]
def Wd (D : va_G) (ad : Nat → Nat) (cI cJ : ClassId) (N : Nat) (xs : Nat → Int32) (A : Nat → Prop) (σ : St) (H : Heap) : Prop := va_P D cls9 (wls ad cI cJ σ) H ∧ va_D A (wls ad cI cJ σ) ∧ gsl σ = N ∧ gai σ 48 = xs
def Aw (ad : Nat → Nat) (sz : Nat) : Nat → Prop := fun q => (∃ i, i < 46 ∧ q = ad i) ∨ sz ≤ q
/-- locals -/
def LH (ad : Nat → Nat) (ls : Array Slot) (nL : Nat) (L : Lo) : Prop := ls.size = nL ∧ lv_wf ls ∧ L.length = nL ∧ ∀ (k : Nat) (v : Value), L[k]? = some (some v) → ls[k]? = some (.val (rl ad v))
def asc (ad : Nat → Nat) (L : Lo) : List (Nat × Value) := (List.range L.length).filterMap (fun k => match L[k]? with
  | some (some v) => some (k, rl ad v)
  | _ => none)
theorem asc_mem {ad : Nat → Nat} {L : Lo} {k : Nat} {u : Value} : (k, u) ∈ asc ad L ↔ ∃ v, L[k]? = some (some v) ∧ u = rl ad v := by
  unfold asc
  rw [List.mem_filterMap]
  constructor
  · rintro ⟨a, ha, h⟩
    split at h
    · rename_i v hv
      simp only [Option.some.injEq, Prod.mk.injEq] at h
      obtain ⟨rfl, rfl⟩ := h
      exact ⟨v, hv, rfl⟩
    · cases h
  · rintro ⟨v, hv, rfl⟩
    refine ⟨k, List.mem_range.mpr (List.getElem?_eq_some_iff.mp hv).1, ?_⟩
    simp [hv]
theorem LH.has {ad : Nat → Nat} {ls : Array Slot} {nL : Nat} {L : Lo} (h : LH ad ls nL L) : lv_has ls nL (asc ad L) := by
  refine ⟨h.1, h.2.1, ?_⟩
  rintro ⟨k, u⟩ hq
  obtain ⟨v, hv, rfl⟩ := asc_mem.mp hq
  exact h.2.2.2 k v hv
theorem LH.of {ad : Nat → Nat} {ls : Array Slot} {nL : Nat} {L : Lo} {l : List (Nat × Value)} (h : lv_has ls nL l) (hl : L.length = nL) (hm : ∀ (k : Nat) (v : Value), L[k]? = some (some v) → (k, rl ad v) ∈ l) : LH ad ls nL L :=
  ⟨h.1, h.2.1, hl, fun k v hv => h.2.2 _ (hm k v hv)⟩
theorem kil_len (L : Lo) (i : Nat) : (kil L i).length = L.length := by
  unfold kil
  split
  · rfl
  · split <;> simp
theorem kil_at {L : Lo} {i k : Nat} {u : Value} (h : (kil L i)[k]? = some (some u)) : L[k]? = some (some u) ∧ ¬ (k + 1 = i ∧ u.category = 2) := by
  cases i with
  | zero => exact ⟨h, by omega⟩
  | succ j =>
    simp only [kil] at h
    split at h
    · rename_i x hx
      by_cases e : j = k
      · subst e
        have hl := (List.getElem?_eq_some_iff.mp hx).1
        rw [List.getElem?_set_self hl] at h
        cases h
      · rw [List.getElem?_set_ne e] at h
        exact ⟨h, by omega⟩
    · rename_i x hx
      by_cases e : j = k
      · subst e
        have hl := (List.getElem?_eq_some_iff.mp hx).1
        rw [List.getElem?_set_self hl] at h
        cases h
      · rw [List.getElem?_set_ne e] at h
        exact ⟨h, by omega⟩
    · rename_i h1 h2
      refine ⟨h, ?_⟩
      rintro ⟨e, hc⟩
      have e : k = j := by omega
      subst e
      cases u with
      | long x => exact h1 x h
      | double x => exact h2 x h
      | _ => simp [Value.category] at hc
theorem st1_mem {ad : Nat → Nat} {L : Lo} {i k : Nat} {v u : Value} (h : (st1 L i v)[k]? = some (some u)) : (k, rl ad u) ∈ (i, rl ad v) :: (asc ad L).filter (fun q => !(q.1 == i) && !(q.1 + 1 == i && q.2.category == 2)) := by
  unfold st1 at h
  by_cases e : i = k
  · subst e
    have hl : i < (kil L i).length := by
      rcases Nat.lt_or_ge i (kil L i).length with q | q
      · exact q
      · rw [List.getElem?_eq_none (by rw [List.length_set]; exact q)] at h
        cases h
    rw [List.getElem?_set_self hl] at h
    simp only [Option.some.injEq] at h
    subst h
    exact List.mem_cons_self
  · rw [List.getElem?_set_ne e] at h
    obtain ⟨h1, h2⟩ := kil_at h
    refine List.mem_cons_of_mem _ (List.mem_filter.mpr ⟨asc_mem.mpr ⟨u, h1, rfl⟩, ?_⟩)
    have e1 : (k == i) = false := by simpa using Ne.symm e
    simp only [e1, Bool.not_false, Bool.true_and, Bool.not_eq_true', Bool.and_eq_false_imp, beq_iff_eq, rl_cat]
    intro e2
    simpa using fun e3 => h2 ⟨e2, e3⟩
theorem st2_mem {ad : Nat → Nat} {L : Lo} {i k : Nat} {v u : Value} (h : (st2 L i v)[k]? = some (some u)) : (k, rl ad u) ∈ (i, rl ad v) :: (asc ad L).filter (fun q => !(q.1 == i) && (!(q.1 == i + 1) && !(q.1 + 1 == i && q.2.category == 2))) := by
  unfold st2 at h
  have ne : ¬ i + 1 = k := by
    intro e
    subst e
    rcases Nat.lt_or_ge (i + 1) ((kil L i).set i (some v)).length with q | q
    · rw [List.getElem?_set_self q] at h
      cases h
    · rw [List.getElem?_eq_none (by rw [List.length_set]; exact q)] at h
      cases h
  rw [List.getElem?_set_ne ne] at h
  by_cases e : i = k
  · subst e
    have hl : i < (kil L i).length := by
      rcases Nat.lt_or_ge i (kil L i).length with q | q
      · exact q
      · rw [List.getElem?_eq_none (by rw [List.length_set]; exact q)] at h
        cases h
    rw [List.getElem?_set_self hl] at h
    simp only [Option.some.injEq] at h
    subst h
    exact List.mem_cons_self
  · rw [List.getElem?_set_ne e] at h
    obtain ⟨h1, h2⟩ := kil_at h
    refine List.mem_cons_of_mem _ (List.mem_filter.mpr ⟨asc_mem.mpr ⟨u, h1, rfl⟩, ?_⟩)
    have e1 : (k == i) = false := by simpa using Ne.symm e
    have e4 : (k == i + 1) = false := by simpa using Ne.symm ne
    simp only [e1, e4, Bool.not_false, Bool.true_and, Bool.not_eq_true', Bool.and_eq_false_imp, beq_iff_eq, rl_cat]
    intro e2
    simpa using fun e3 => h2 ⟨e2, e3⟩
theorem st1_len (L : Lo) (i : Nat) (v : Value) : (st1 L i v).length = L.length := by simp [st1, kil_len]
theorem st2_len (L : Lo) (i : Nat) (v : Value) : (st2 L i v).length = L.length := by simp [st2, kil_len]
theorem lcs_at {ad : Nat → Nat} : ∀ (vs : List Value) (k : Nat) (v : Value), (lcs vs)[k]? = some (some v) → (lg_sl (vs.map (rl ad)))[k]? = some (.val (rl ad v))
  | [], k, v, h => by simp [lcs] at h
  | w :: vs, k, v, h => by
    have e1 : lcs (w :: vs) = (if w.category = 2 then [some w, none] else [some w]) ++ lcs vs := rfl
    have e2 : lg_sl ((w :: vs).map (rl ad)) = (if (rl ad w).category = 2 then [.val (rl ad w), .second] else [.val (rl ad w)]) ++ lg_sl (vs.map (rl ad)) := rfl
    rw [e1] at h
    rw [e2, rl_cat]
    by_cases hc : w.category = 2
    · rw [if_pos hc] at h ⊢
      match k, h with
      | 0, h =>
        simp at h
        subst h
        rfl
      | 1, h => simp at h
      | k + 2, h =>
        simp only [List.cons_append, List.nil_append, List.getElem?_cons_succ] at h ⊢
        exact lcs_at vs k v h
    · rw [if_neg hc] at h ⊢
      match k, h with
      | 0, h =>
        simp at h
        subst h
        rfl
      | k + 1, h =>
        simp only [List.cons_append, List.nil_append, List.getElem?_cons_succ] at h ⊢
        exact lcs_at vs k v h
theorem lcs_len (ad : Nat → Nat) : ∀ (vs : List Value), (lg_sl (vs.map (rl ad))).length = (lcs vs).length
  | [] => rfl
  | w :: vs => by
    have e1 : lcs (w :: vs) = (if w.category = 2 then [some w, none] else [some w]) ++ lcs vs := rfl
    have e2 : lg_sl ((w :: vs).map (rl ad)) = (if (rl ad w).category = 2 then [.val (rl ad w), .second] else [.val (rl ad w)]) ++ lg_sl (vs.map (rl ad)) := rfl
    rw [e1, e2, rl_cat, List.length_append, List.length_append, lcs_len ad vs]
    by_cases hc : w.category = 2
    · rw [if_pos hc, if_pos hc]; rfl
    · rw [if_neg hc, if_neg hc]; rfl
theorem ent_LH {ad : Nat → Nat} {m : Nat} {vs : List Value} (h : (lcs vs).length ≤ mxl m) : LH ad ((lg_sl (vs.map (rl ad)) ++ List.replicate (mxl m - (lg_sl (vs.map (rl ad))).length) Slot.unset).toArray) (mxl m) (ent m vs) := by
  have hl := lv_entry (vs.map (rl ad)) (n := mxl m) (by rw [lcs_len]; exact h)
  refine ⟨hl.1, hl.2.1, by simp only [ent, List.length_append, List.length_replicate]; omega, ?_⟩
  intro k v hv
  have h1 : k < (lcs vs).length := by
    rcases Nat.lt_or_ge k (lcs vs).length with q | q
    · exact q
    · unfold ent at hv
      rw [List.getElem?_append_right q] at hv
      have := List.mem_of_getElem? hv
      simp at this
  unfold ent at hv
  rw [List.getElem?_append_left h1] at hv
  have h2 := lcs_at (ad := ad) vs k v hv
  show ((lg_sl (vs.map (rl ad)) ++ List.replicate (mxl m - (lg_sl (vs.map (rl ad))).length) Slot.unset).toArray)[k]? = _
  rw [List.getElem?_toArray, List.getElem?_append_left (by rw [lcs_len]; exact h1)]
  exact h2
