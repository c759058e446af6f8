section SND
variable {p : Program} {l : Launch} {e : Env} {R : Room} {s : State} {mm : MethodId} {args : Array Value} {below : List Frame} {meth : Method} {cd : Code} {H : Heap} {locs : List Loc} {cells slots : Nat} {Q : State → Prop}
variable {D : va_G} {ad : Nat → Nat} {cI cJ : ClassId} {N : Nat} {xs : Nat → Int32} {A : Nat → Prop} {m : Nat}
def hhk (m : Nat) : Bool := (mhh m).all (fun q => decide (hx q.2.2.2 < 4) && decide (q.2.2.2 ≠ 0) && decide (Cond.classLink (mow m) q.2.2.2 (exn (hx q.2.2.2)) ∈ gtb))
theorem hhk_all : ∀ m, m < 182 → hhk m = true := by
  have h : (List.range 182).all hhk = true := by decide +kernel
  exact fun m hm => List.all_eq_true.mp h m (List.mem_range.mpr hm)
theorem cst_all : ∀ x, x < 4 → Cond.castable (exn x) (exn x) ∈ lw_tbl := by
  have h : (List.range 4).all (fun x => decide (Cond.castable (exn x) (exn x) ∈ lw_tbl)) = true := by decide +kernel
  exact fun x hx => of_decide_eq_true (List.all_eq_true.mp h x (List.mem_range.mpr hx))
theorem st0_mem {L : Lo} {i k : Nat} {u : Value} (h : ((kil L i).set i none)[k]? = some (some u)) : (k, rl ad u) ∈ (asc ad L).filter (fun q => !(q.1 == i) && !(q.1 + 1 == i && q.2.category == 2)) := by
  have e : ¬ i = k := by
    intro e
    subst e
    rcases Nat.lt_or_ge i (kil L i).length with q | q
    · rw [List.getElem?_set_self q] at h
      cases h
    · rw [List.getElem?_eq_none (by rw [List.length_set]; exact q)] at h
      cases h
  rw [List.getElem?_set_ne e] at h
  obtain ⟨h1, h2⟩ := kil_at h
  refine List.mem_filter.mpr ⟨asc_mem.mpr ⟨u, h1, rfl⟩, ?_⟩
  have e1 : (k == i) = false := by simpa using Ne.symm e
  simp only [e1, Bool.not_false, Bool.true_and, Bool.not_eq_true', Bool.and_eq_false_imp, beq_iff_eq, rl_cat]
  intro e2
  simpa using fun e3 => h2 ⟨e2, e3⟩
theorem wls_in {σ : St} {sz k : Nat} {q : Nat × va_E} (h : (wls ad cI cJ σ)[k]? = some q) : Aw ad sz q.1 := by
  have hk : k < 46 := by
    have := (List.getElem?_eq_some_iff.mp h).1
    simpa [wls] using this
  rw [wls_at hk] at h
  cases h
  exact Or.inl ⟨k, hk, rfl⟩
theorem Aw_mono {s : State} {locs : List Loc} (hS : va_S A s.heap H locs) : ∀ z, Aw ad H.size z → Aw ad s.heap.size z := fun z h => h.elim Or.inl (fun h => Or.inr (Nat.le_trans hS.1 h))
theorem exn_thr {a b : Nat} (h : (thr b).2.1 = exn a) : (thr b).2.1 = exn a := h
theorem ret_sound {r : Row} {S : List Value} {σ : St} {v : Option Value} {ls : Array Slot} {mc ms : Nat} (hC : Cx p l s mm args meth cd m) (hok : rok m r = true) (hv : rts m r S v) (hc : cells ≤ mc) (hs : slots ≤ ms)
    (hWd : Wd D ad cI cJ N xs (Aw ad s.heap.size) σ H) (hS : va_S (Aw ad s.heap.size) s.heap H locs) :
    W p l e R s mm args below meth cd H locs cells slots (vx_MQ below (QC D ad cI cJ N xs s.heap.size (.inl v, σ, 0)) (XC D ad cI cJ N xs s.heap.size (.inl v, σ, 0)) args s mc ms (Aw ad s.heap.size)) (F0 mm r.1 ls (S.map (rl ad))) := by
  obtain ⟨hx, hb, hrt, hml, hown, hts, hlocks, htab, hst⟩ := hC
  obtain ⟨pc, nx, i, a, b, w, vi, vl⟩ := r
  obtain ⟨hd, hn⟩ := rok_d hok
  have step : iln i = 1 → isw i = false → decode (mby m) pc = .ok (i, 1) := by
    intro hk9 hw9
    have e : nx = pc + 1 := by
      rcases hn with h | h
      · rw [hw9] at h; cases h
      · rw [h, hk9]
    rw [hd, e, Nat.add_sub_cancel_left]
  refine W.widen (k := mc) (n := ms) hc hs (vx_ret ?_)
  unfold rts at hv
  dsimp only at hv
  split at hv
  · obtain ⟨h1, rfl, rfl⟩ := hv
    rw [h1] at hrt
    exact W.vret hx hb hrt (fun t ht hW => ⟨⟨none, rfl, rfl⟩, by rw [ht]; exact hWd, hS.F ht⟩) (fun z hz => hS.2.2 z hz) (step rfl rfl)
  · obtain ⟨x, ty, rfl, h1, h2, rfl⟩ := hv
    rw [h1] at hrt
    exact W.zret hx hb hrt h2 (fun t ht hW => ⟨⟨some (.int x), rfl, rfl⟩, by rw [ht]; exact hWd, hS.F ht⟩) (fun z hz => hS.2.2 z hz) (step rfl rfl)
  · obtain ⟨x, rfl, h1, rfl⟩ := hv
    rw [h1] at hrt
    exact W.lret hx hb hrt (fun t ht hW => ⟨⟨some (.long x), rfl, rfl⟩, by rw [ht]; exact hWd, hS.F ht⟩) (fun z hz => hS.2.2 z hz) (step rfl rfl)
  · exact hv.elim
theorem thr_sound {r : Row} {σ : St} {ls : Array Slot} {mc ms : Nat} (hC : Cx p l s mm args meth cd m) (hKs : Ks ad N xs (Aw ad s.heap.size) s s.heap) (hok : rok m r = true) (hk : knd r = 3) (hh : mhh m = []) (hf : 6 ≤ R.frames) (hl : 222 ≤ R.locals) (hc : cells + 1 ≤ mc) (hs : slots + 6 ≤ ms) (hc2 : mc ≤ R.cells) (hs2 : ms ≤ R.slots)
    (hWd : Wd D ad cI cJ N xs (Aw ad s.heap.size) σ H) (hS : va_S (Aw ad s.heap.size) s.heap H locs) (hL : ls.size = mxl m) :
    W p l e R s mm args below meth cd H locs cells slots (vx_MQ below (QC D ad cI cJ N xs s.heap.size (.inr r.2.2.2.1, σ, 1)) (XC D ad cI cJ N xs s.heap.size (.inr r.2.2.2.1, σ, 1)) args s mc ms (Aw ad s.heap.size)) (F0 mm r.1 ls []) := by
  obtain ⟨hx, hb, hrt, hml, hown, hts, hlocks, htab, hst⟩ := hC
  obtain ⟨pc, nx, i, a, b, w, vi, vl⟩ := r
  obtain ⟨hd, hn⟩ := rok_d hok
  cases i with
  | new ik =>
    simp only [rok, Bool.and_eq_true, decide_eq_true_eq] at hok
    obtain ⟨-, hok⟩ := hok
    have hb13 : b < 13 := hok.1.2
    obtain ⟨⟨⟨⟨⟨⟨⟨⟨⟨⟨⟨e1, e2⟩, e3⟩, h1⟩, h2⟩, e4⟩, d3⟩, d4⟩, d6⟩, d9⟩, -⟩, ha4⟩ := hok
    have hth := thk_all b hb13
    obtain ⟨sa, hstr⟩ := hKs.2.1 b hb13
    unfold thk at hth
    generalize thr b = q at *
    obtain ⟨own, c, ik', is, tx, ic, w1, w2⟩ := q
    dsimp only at *
    simp only [Bool.and_eq_true, decide_eq_true_eq] at hth
    obtain ⟨⟨⟨⟨g1, g2⟩, g3⟩, g4⟩, g5⟩ := hth
    subst e1 e2 e3 e4
    have hd0 : decode (mby m) pc = .ok (.new ik', 3) := by rw [hd, Nat.add_sub_cancel_left]
    have hat : ∀ w ∈ vx_atS (mow m) ic (exn a) nms, w.before args s = true := by
      intro w hw
      have h9 := List.all_eq_true.mp g3 w hw
      simp only [Bool.and_eq_true, Bool.or_eq_true, decide_eq_true_eq] at h9
      obtain ⟨⟨h9, h8⟩, -⟩ := h9
      rcases h8 with h8 | h8
      · exact hts w (gtb_of h9 h8)
      · exact va_Nw.use (nw_on h8) (hKs.1 w h9 h8)
    refine vx_throwS (names := nms) (rest := []) (mc := mc) (ms := ms) hx hb hst hown g1 (by decide +kernel) (hts _ (gtb_of (tis_mem h1) rfl)) (hts _ g2) hstr hat ?_ hKs.2.2.2.2.2.1.1 hKs.2.2.2.2.2.1.2 hS (by rw [hml]; exact hL) hd0 d3 d4 d6 d9 (by rw [htab, hh]; intro x hx9; cases hx9) (by show 2 + 3 < R.frames; omega) (by show 0 + (13 * (2 + 1) + 43) ≤ R.locals; omega) (by omega) (by omega) hlocks ?_ (fun z hz => hS.2.2 z hz) hc hs
    · intro w hw
      rcases List.mem_cons.mp hw with rfl | hw
      · exact g4
      · rcases List.mem_cons.mp hw with rfl | hw
        · exact g5
        · have h9 := List.all_eq_true.mp g3 w hw
          simp only [Bool.and_eq_true] at h9
          exact h9.2
    · intro t ht hz hq
      refine ⟨⟨a, rfl, ha4, rfl⟩, ⟨hWd.1.kept (fun k q hk9 => hq _ (hWd.1 k q hk9).lt), hWd.2⟩, Nat.le_trans hS.1 hz, fun z h8 h9 => ?_⟩
      rw [hq z (Nat.lt_of_lt_of_le h8 hS.1)]
      exact hS.2.1 z h8 h9
  | _ => exact absurd hk (by first | (simp [knd]; done) | (simp only [knd]; split <;> simp))
end SND
