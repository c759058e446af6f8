section SND
variable {p : Program} {l : Launch} {e : Env} {R : Room} {s : State} {mm : MethodId} {args : Array Value} {below : List Frame} {meth : Method} {cd : Code} {H : Heap} {locs : List Loc} {cells slots : Nat} {Q : State → Prop}
variable {D : va_G} {ad : Nat → Nat} {cI cJ : ClassId} {N : Nat} {xs : Nat → Int32} {A : Nat → Prop} {m : Nat}
theorem va_to_vx {mc ms : Nat} {g : JFrame} {rest : List Value} {Qa : State → Outcome → State → Prop} {X : String → State → State → Prop} {free : Addr → Prop} (h : va_Run p l e R s mm args below meth cd H locs cells slots mc ms g rest Qa free) : vx_Run p l e R s mm args below meth cd H locs cells slots mc ms g rest Qa X free :=
  fun T hT X9 => Or.inl (h T hT X9)
theorem rcv_cell {y i : Nat} {σ : St} (hK : va_K D cls9 (tys9 cI cJ) s) (hKs : Ks ad N xs (Aw ad s.heap.size) s s.heap) (hWd : Wd D ad cI cJ N xs (Aw ad s.heap.size) σ H) (hS : va_S (Aw ad s.heap.size) s.heap H locs)
    (hc : mci y < 6 ∨ mci y = 7) (h : if mci y = 7 then i = 46 ∨ i = 47 else i < 24 ∧ kls i = mci y) : ∃ cellB : Cell, H[ad i]? = some cellB ∧ cellB.vm.isStatics = false ∧ s.vm.findClass (fK (mci y)) = some cellB.cls := by
  by_cases h7 : mci y = 7
  · rw [if_pos h7] at h
    obtain ⟨cell, h1, h2, h3, -⟩ := (hKs.2.2.2.2.1 i h).1.kept hS.2.1
    rw [h7]
    exact ⟨cell, h1, h2, h3⟩
  · rw [if_neg h7] at h
    have h6 : mci y < 6 := hc.resolve_right h7
    have he : (wls ad cI cJ σ)[i]? = some (ad i, .inr (mci y, fvs ad σ i)) := by rw [wls_at (by omega), cel_o h.1, h.2]
    exact va_recv hK hWd.1 (cls9_at h6) he
set_option maxHeartbeats 2000000 in
theorem call_run {r : Row} {d : Nat} {vs rest : List Value} {σ : St} {q1 : Rs} {ls : Array Slot} (hC : Cx p l s mm args meth cd m) (hok : rok m r = true) (hk : knd r = 2) (hlen : vs.length = r.2.2.2.2.1) (hsum : (rest.map fun v => v.category).sum ≤ 8) (hrcv : rcv r.2.2.2.1 vs)
    (hM : r.2.2.2.1 < 181 → vx_Met l (mnm r.2.2.2.1) (wsm r.2.2.2.1) (rmd d q1.2.2) (PC D ad cI cJ N xs H.size vs σ) (QC D ad cI cJ N xs H.size q1) (XC D ad cI cJ N xs H.size q1) q1.2.2 (6 * q1.2.2) (Aw ad H.size))
    (hx0 : r.2.2.2.2.2.2.1 = 0 ∨ ∃ v, q1.1 = .inl v)
    (hK : va_K D cls9 (tys9 cI cJ) s) (hKs : Ks ad N xs (Aw ad s.heap.size) s s.heap) (hWd : Wd D ad cI cJ N xs (Aw ad s.heap.size) σ H) (hS : va_S (Aw ad s.heap.size) s.heap H locs) (hL : ls.size = mxl m)
    (hfr : d + 1 ≤ R.frames) (hlo : 37 * (d + 1) ≤ R.locals) (hce : cells + q1.2.2 ≤ R.cells) (hsl : slots + 6 * q1.2.2 ≤ R.slots) :
    r.2.1 = r.1 + 3 ∧ ∃ a9, vx_Run p l e R s mm args below meth cd H locs cells slots q1.2.2 (6 * q1.2.2) (F0 mm r.1 ls ((vs.reverse ++ rest).map (rl ad))) (rest.map (rl ad)) (QC D ad cI cJ N xs H.size q1 a9) (XC D ad cI cJ N xs H.size q1) (Aw ad H.size) := by
  obtain ⟨hx, hb, hrt, hml, hown, hts, hlocks, htab, hst⟩ := hC
  obtain ⟨pc, nx, i, a, b, w, vi, vl⟩ := r
  obtain ⟨hd, hn⟩ := rok_d hok
  dsimp only at hlen hrcv hM hx0 ⊢
  have hA := Aw_mono (ad := ad) hS
  have hPc : ∀ U : State, U.heap = H → s.WarmedH U.vm → PC D ad cI cJ N xs H.size vs σ (vs.map (rl ad)).toArray U := fun U hU hW =>
    ⟨rfl, by rw [hU], va_K.moved hW.alike hK, hKs.to hW hS hU hA, by rw [hU]; exact ⟨hWd.1, ⟨hWd.2.1.1, fun k q hk9 => wls_in hk9⟩, hWd.2.2⟩⟩
  have hroom : 2 * (F0 mm pc ls ((vs.reverse ++ rest).map (rl ad))).monitorRoom + ((rest.map (rl ad)).map fun v => v.category).sum ≤ 8 := lv_room (by rw [rl_sum]; exact hsum)
  have hnoX : (∃ v, q1.1 = .inl v) → ∀ E st t, ¬ XC D ad cI cJ N xs H.size q1 E st t := by
    rintro ⟨v, hv⟩ E st t ⟨⟨x, hx9, -⟩, -⟩
    rw [hv] at hx9
    cases hx9
  have fix : CallFix p mm cd (mby m) (mxl m) s args gtb (mow m) := ⟨hx, hb, hml, hown, hts⟩
  cases i with
  | invokevirtual k =>
    simp only [rok, Bool.and_eq_true, Bool.or_eq_true, decide_eq_true_eq] at hok
    obtain ⟨-, ⟨⟨⟨⟨hkd, hbn⟩, hb0⟩, ha⟩, hnx⟩, hlk⟩ := hok
    subst hnx
    refine ⟨rfl, ?_⟩
    rw [Nat.add_sub_cancel_left] at hd
    have hM := hM ha
    have hmk := mok_all a ha
    have hin := wsm_in ha
    simp only [mok, Bool.and_eq_true, Bool.or_eq_true, decide_eq_true_eq, if_pos hkd] at hmk
    obtain ⟨⟨⟨⟨⟨⟨ho, hpl⟩, hn1⟩, hn2⟩, hmx⟩, hini⟩, ⟨⟨⟨⟨⟨hpar, hins⟩, hsel⟩, -⟩, hfk⟩, hci⟩⟩ := hmk
    have ecw : cwd a = .code (mnm a) (mby a) (mxl a) (mrt a) := by unfold cwd; rw [if_neg (by omega)]
    have hcd : Cond.code (mnm a) (mby a) (mxl a) (mrt a) ∈ gtb := by rw [← ecw]; exact gtb_of (cwd_in a ha) (good_cwd a)
    have hcm : Cond.code (mnm a) (mby a) (mxl a) (mrt a) ∈ wsm a := by rw [← ecw]; exact List.mem_cons_self
    obtain ⟨i, us, rfl, hi⟩ := hrcv hkd
    have hcell := rcv_cell hK hKs hWd hS hci hi
    rw [hfk] at hcell
    have hn : ∀ sig, parseMethodDescriptor (mnm a).desc = some sig → us.length = sig.parameters.length := by
      intro sig hsig
      rw [hsig] at hpar
      simp only [Option.map_some, Option.some.injEq] at hpar
      simp only [List.length_cons] at hlen
      omega
    have hst0 : (((.ref i :: us).reverse ++ rest).map (rl ad)) = (us.map (rl ad)).reverse ++ Value.ref (ad i) :: rest.map (rl ad) := by simp [rl]
    rw [hst0] at hroom ⊢
    have hp : PreV s H (mnm a).cls (ad i) (PC D ad cI cJ N xs H.size (.ref i :: us) σ) (us.map (rl ad)) := ⟨PC.blind, hcell, hPc⟩
    refine ⟨(Value.ref (ad i) :: us.map (rl ad)).toArray, ?_⟩
    rcases hlk with h | ⟨h, hv1⟩
    · exact vx_runV (C := (mnm a).cls) (bytes := mby a) (maxL := mxl a) (ret := mrt a) fix hM ⟨⟨rfl, rfl, hfr, by show 8 + (mxl a + 11) + 37 * d ≤ R.locals; omega, pay9 hts hin, hcm, hts _ hcd, hts _ (gtb_of (tis_mem hini) rfl), ⟨hn1, hn2⟩, hn, hts _ (gtb_of (tis_mem h) rfl)⟩, hts _ (gtb_of (tis_mem hins) rfl), hts _ (gtb_of (tis_mem hsel) rfl)⟩ hp rfl (by rw [List.length_map]) hL rfl hroom hd ⟨hce, hsl⟩
    · have hret : ∃ v, q1.1 = .inl v := hx0.resolve_left (by rw [hv1]; decide)
      exact va_to_vx (va_runVN (C := (mnm a).cls) (bytes := mby a) (maxL := mxl a) (ret := mrt a) (host := "NumberModels") fix (met_of hM (hnoX hret)) ⟨⟨⟨rfl, rfl, hfr, by show 8 + (mxl a + 11) + 37 * d ≤ R.locals; omega, pay9 hts hin, hcm⟩, hts _ hcd, hts _ (gtb_of (tis_mem hini) rfl), ⟨hn1, hn2⟩, hn, va_Nw.use rfl (hKs.1 _ (tis_mem h) rfl)⟩, hts _ (gtb_of (tis_mem hins) rfl), hts _ (gtb_of (tis_mem hsel) rfl)⟩ hp rfl (by rw [List.length_map]) hL rfl hroom hd ⟨hce, hsl⟩)
  | invokestatic k =>
    have ha9 : a < 900 := by
      rcases Nat.lt_or_ge a 900 with h | h
      · exact h
      · simp [knd, Nat.not_lt.mpr h] at hk
    simp only [rok, Bool.and_eq_true, Bool.or_eq_true, decide_eq_true_eq] at hok
    obtain ⟨-, hnx, hok⟩ := hok
    rw [if_pos ha9] at hok
    simp only [Bool.and_eq_true, Bool.or_eq_true, decide_eq_true_eq] at hok
    obtain ⟨⟨⟨hkd, hbn⟩, ha⟩, hlk⟩ := hok
    subst hnx
    refine ⟨rfl, ?_⟩
    rw [Nat.add_sub_cancel_left] at hd
    have hM := hM ha
    have hmk := mok_all a ha
    have hin := wsm_in ha
    have hk0 : ¬ mkd a = 0 := by omega
    simp only [mok, Bool.and_eq_true, Bool.or_eq_true, decide_eq_true_eq, if_neg hk0] at hmk
    obtain ⟨⟨⟨⟨⟨⟨ho, hpl⟩, hn1⟩, hn2⟩, hmx⟩, hini⟩, ⟨⟨hpar, hsta⟩, -⟩⟩ := hmk
    have hn : ∀ sig, parseMethodDescriptor (mnm a).desc = some sig → vs.length = sig.parameters.length := by
      intro sig hsig
      rw [hsig] at hpar
      simp only [Option.map_some, Option.some.injEq] at hpar
      omega
    have hst0 : ((vs.reverse ++ rest).map (rl ad)) = (vs.map (rl ad)).reverse ++ rest.map (rl ad) := by simp
    rw [hst0] at hroom ⊢
    have hp : PreS s H (PC D ad cI cJ N xs H.size vs σ) (vs.map (rl ad)) := ⟨PC.blind, hPc⟩
    refine ⟨(vs.map (rl ad)).toArray, ?_⟩
    by_cases h2 : mkd a = 2
    · have ecw : cwd a = .codeWith (mnm a) (mby a) (mxl a) (mrt a) (mhh a) := by unfold cwd; rw [if_pos h2]
      have hcd : Cond.codeWith (mnm a) (mby a) (mxl a) (mrt a) (mhh a) ∈ gtb := by rw [← ecw]; exact gtb_of (cwd_in a ha) (good_cwd a)
      have hcm : Cond.codeWith (mnm a) (mby a) (mxl a) (mrt a) (mhh a) ∈ wsm a := by rw [← ecw]; exact List.mem_cons_self
      rcases hlk with h | ⟨⟨h, h9⟩, -⟩
      · exact vx_runSX (bytes := mby a) (maxL := mxl a) (ret := mrt a) (hh := mhh a) fix hM ⟨⟨rfl, rfl, hfr, by show 8 + (mxl a + 11) + 37 * d ≤ R.locals; omega, pay9 hts hin, hcm⟩, hts _ hcd, hts _ (gtb_of (tis_mem hini) rfl), ⟨hn1, hn2⟩, hn, hts _ (gtb_of (tis_mem h) rfl), hts _ (gtb_of (tis_mem hsta) rfl)⟩ hp rfl (by rw [List.length_map]) hL rfl hroom hd ⟨hce, hsl⟩
      · omega
    · have ecw : cwd a = .code (mnm a) (mby a) (mxl a) (mrt a) := by unfold cwd; rw [if_neg h2]
      have hcd : Cond.code (mnm a) (mby a) (mxl a) (mrt a) ∈ gtb := by rw [← ecw]; exact gtb_of (cwd_in a ha) (good_cwd a)
      have hcm : Cond.code (mnm a) (mby a) (mxl a) (mrt a) ∈ wsm a := by rw [← ecw]; exact List.mem_cons_self
      rcases hlk with h | ⟨⟨h, h9⟩, hv1⟩
      · exact vx_runS (bytes := mby a) (maxL := mxl a) (ret := mrt a) fix hM ⟨⟨rfl, rfl, hfr, by show 8 + (mxl a + 11) + 37 * d ≤ R.locals; omega, pay9 hts hin, hcm, hts _ hcd, hts _ (gtb_of (tis_mem hini) rfl), ⟨hn1, hn2⟩, hn, hts _ (gtb_of (tis_mem h) rfl)⟩, hts _ (gtb_of (tis_mem hsta) rfl)⟩ hp rfl (by rw [List.length_map]) hL rfl hroom hd ⟨hce, hsl⟩
      · have hret : ∃ v, q1.1 = .inl v := hx0.resolve_left (by rw [hv1]; decide)
        exact va_to_vx (va_runSN (bytes := mby a) (maxL := mxl a) (ret := mrt a) (host := "NumberModels") fix (met_of hM (hnoX hret)) ⟨⟨⟨rfl, rfl, hfr, by show 8 + (mxl a + 11) + 37 * d ≤ R.locals; omega, pay9 hts hin, hcm⟩, hts _ hcd, hts _ (gtb_of (tis_mem hini) rfl), ⟨hn1, hn2⟩, hn, va_Nw.use rfl (hKs.1 _ (tis_mem h) rfl)⟩, hts _ (gtb_of (tis_mem hsta) rfl), trivial⟩ hp rfl (by rw [List.length_map]) hL rfl hroom hd ⟨hce, hsl⟩)
  | _ => exact absurd hk (by simp [knd])
theorem cat_sound {x hp pc : Nat} {r2 : Row} {σ : St} {L : Lo} {rest : List Value} {ls : Array Slot} {q9 : Addr} {ce : Cell} (hm : m < 182) (hC : Cx p l s mm args meth cd m) (hKs : Ks ad N xs (Aw ad s.heap.size) s s.heap) (hx4 : x < 4) (hh : hdl m pc x = some hp) (hr : rowAt m hp = some r2) (hast : ast r2 = true)
    (hWd : Wd D ad cI cJ N xs (Aw ad s.heap.size) σ H) (hS : va_S (Aw ad s.heap.size) s.heap H locs) (hL : LH ad ls (mxl m) L) (hce : H[q9]? = some ce) (hcv : ce.vm = .none) (hcl : s.vm.findClass (exn x) = some ce.cls)
    (kk : Kt p l e R s mm args below meth cd cells slots Q D ad cI cJ N xs (Aw ad s.heap.size) m (r2.2.1, (kil L r2.2.2.2.1).set r2.2.2.2.1 none, [], σ)) :
    vx_W p l e R s mm args below meth cd H locs cells slots Q (F0 mm pc ls rest) q9 := by
  obtain ⟨hx1, hb, hrt, hml, hown, hts, hlocks, htab, hst⟩ := hC
  unfold hdl at hh
  rw [Option.map_eq_some_iff] at hh
  obtain ⟨q, hq, rfl⟩ := hh
  obtain ⟨hq1, as, bs, hsp, hno⟩ := List.find?_eq_some_iff_append.mp hq
  simp only [Bool.and_eq_true, decide_eq_true_eq] at hq1
  have hall := List.all_eq_true.mp (hhk_all m hm)
  have hqm := hall q (by rw [hsp]; simp)
  simp only [Bool.and_eq_true, decide_eq_true_eq] at hqm
  have htab2 : cd.exceptionTable.toList = as.map (fun q => (⟨q.1, q.2.1, q.2.2.1, q.2.2.2⟩ : ExceptionTableEntry)) ++ (⟨q.1, q.2.1, q.2.2.1, q.2.2.2⟩ : ExceptionTableEntry) :: bs.map (fun q => (⟨q.1, q.2.1, q.2.2.1, q.2.2.2⟩ : ExceptionTableEntry)) := by
    rw [htab, hsp]
    simp [tableOf]
  refine vx_catch (name := exn (hx q.2.2.2)) (E := exn x) hown _ _ _ htab2 ?_ ?_ hqm.1.2 (hts _ hqm.2) ?_ hce hcv hcl ?_
  · intro z hz
    obtain ⟨y, hy, rfl⟩ := List.mem_map.mp hz
    have hym := hall y (by rw [hsp]; simp [hy])
    simp only [Bool.and_eq_true, decide_eq_true_eq] at hym
    have hny := hno y hy
    by_cases hcv9 : covers ⟨y.1, y.2.1, y.2.2.1, y.2.2.2⟩ pc = false
    · exact Or.inl hcv9
    · refine Or.inr ⟨hym.1.2, exn (hx y.2.2.2), hts _ hym.2, hKs.2.2.1 x (hx y.2.2.2) hx4 hym.1.1 ?_⟩
      intro e9
      simp only [Bool.not_eq_false] at hcv9
      simp only [covers, Bool.and_eq_true, decide_eq_true_eq] at hcv9
      simp [hcv9.1, hcv9.2, ← e9] at hny
  · simp only [covers, Bool.and_eq_true, decide_eq_true_eq]
    exact ⟨hq1.1.1, hq1.1.2⟩
  · rw [hq1.2]
    exact va_Nw.use rfl (hKs.1 _ (cst_all x hx4) rfl)
  · obtain ⟨-, hp9, hok⟩ := row_ok hr
    obtain ⟨pc2, nx2, i, a, b, w, vi, vl⟩ := r2
    obtain ⟨hd, hn⟩ := rok_d hok
    dsimp only at hp9 kk
    subst hp9
    cases i with
    | astore_n k =>
      have hnx : nx2 = q.2.2.1 + 1 := by
        rcases hn with h | h
        · cases h
        · exact h
      simp only [rok, Bool.and_eq_true, decide_eq_true_eq] at hok
      subst hnx
      rw [Nat.add_sub_cancel_left] at hd
      exact lv_astore_n hx1 hb hd hok.2.1 hL.has hok.2.2 rfl (fun ls1 hl1 => kk H locs ls1 hWd hS (LH.of hl1 (by rw [List.length_set, kil_len]; exact hL.2.2.1) (fun k v h => List.mem_cons_of_mem _ (st0_mem h))))
    | astore k =>
      have hnx : nx2 = q.2.2.1 + 2 := by
        rcases hn with h | h
        · cases h
        · exact h
      simp only [rok, Bool.and_eq_true, decide_eq_true_eq] at hok
      subst hnx
      rw [Nat.add_sub_cancel_left] at hd
      obtain ⟨-, rfl, hlt⟩ := hok
      exact lv_astore hx1 hb hd hL.has hlt rfl (fun ls1 hl1 => kk H locs ls1 hWd hS (LH.of hl1 (by rw [List.length_set, kil_len]; exact hL.2.2.1) (fun k v h => List.mem_cons_of_mem _ (st0_mem h))))
    | _ => exact absurd hast (by simp [ast])
set_option maxHeartbeats 2000000 in
theorem snd_all (hst : l.stackTraces = false) : ∀ n, Snd l D ad cI cJ N xs n := by
  intro n
  induction n with
  | zero => intro d m c q h; exact h.elim
  | succ n ih =>
    intro d m c q h p e R s mm args below meth cd H locs cells slots ls mc ms hC hdR hdL hc hs hcR hsR hK hKs hWd hS hL
    obtain ⟨r, hrow, h⟩ := h
    obtain ⟨hm, hp, hok⟩ := row_ok hrow
    rcases h with ⟨hk, h1, h2⟩ | ⟨hk, hd1, h1, h2⟩ | ⟨hk, v, hv, rfl⟩ | ⟨hk, d', vs, rest, q1, rfl, hSt, hvl, hsum, hlcs, hrcv, hE1, hcont⟩ | ⟨hk, hd6, hmh, hSn, rfl⟩
    · exact stp_sound hC hK hKs hp hok (Or.inl hk) h1 (fun H1 locs1 ls1 g1 g2 g3 => ih d m _ q h2 p e R s mm args below meth cd H1 locs1 cells slots ls1 mc ms hC hdR hdL hc hs hcR hsR hK hKs g1 g2 g3) hWd hS hL
    · exact stp_sound hC hK hKs hp hok (Or.inr ⟨hk, by omega, by omega, by omega, by omega⟩) h1 (fun H1 locs1 ls1 g1 g2 g3 => ih d m _ q h2 p e R s mm args below meth cd H1 locs1 cells slots ls1 mc ms hC hdR hdL hc hs hcR hsR hK hKs g1 g2 g3) hWd hS hL
    · rw [← hp]
      exact ret_sound hC hok hv (by simpa using hc) (by simpa using hs) hWd hS
    · have hcost : q1.2.2 ≤ q.2.2 := by
        rcases hcont with ⟨v, q2, -, -, rfl⟩ | ⟨x, -, -, -, -, rfl⟩ | ⟨x, hp2, r2, q2, -, -, -, -, -, -, -, rfl⟩
        · exact Nat.le_add_right _ _
        · exact Nat.le_refl _
        · exact Nat.le_add_right _ _
      have hx0 : r.2.2.2.2.2.2.1 = 0 ∨ ∃ v, q1.1 = .inl v := by
        rcases hcont with ⟨v, q2, h, -⟩ | ⟨x, -, -, -, h, -⟩ | ⟨x, hp2, r2, q2, -, -, h, -⟩
        · exact Or.inr ⟨v, h⟩
        · exact Or.inl h
        · exact Or.inl h
      obtain ⟨hnx, a9, hrun⟩ := call_run (p := p) (e := e) (R := R) (below := below) (locs := locs) (cells := cells) (slots := slots) (H := H) (ls := ls) (d := d') (rest := rest) (σ := c.2.2.2) (q1 := q1) hC hok hk hvl hsum hrcv (fun ha => ct_of hst ih ha hlcs hE1) hx0 hK hKs hWd hS hL.1 hdR hdL (by omega) (by omega)
      rw [hSt, ← hp]
      refine run_go hrun hS (Aw_mono hS) ?_ ?_
      · intro x H1 locs1 q9 ce hq1 hx4 gW gS hce hcv hcl
        rcases hcont with ⟨v, q2, h, -⟩ | ⟨x', h, hx4', hmh, -, rfl⟩ | ⟨x', hp2, r2, q2, h, hx4', -, hh, hr2, hast, hE2, rfl⟩
        · rw [h] at hq1; cases hq1
        · refine vx_out (E := exn x) (by rw [hC.2.2.2.2.2.2.2.1, hmh]; intro z hz; cases hz) hC.2.2.2.2.2.2.1 hce hcv hcl (fun t ht hal => ⟨⟨x, hq1, hx4, rfl⟩, by rw [ht]; exact gW, gS.F ht⟩) (fun z hz => gS.2.2 z hz) hc hs
        · rw [hq1] at h
          cases h
          rw [hp]
          exact cat_sound hm hC hKs hx4 hh hr2 hast gW gS hL hce hcv hcl (fun H2 locs2 ls2 g1 g2 g3 => ih (d' + 1) m _ q2 hE2 p e R s mm args below meth cd H2 locs2 (cells + q1.2.2) (slots + 6 * q1.2.2) ls2 mc ms hC hdR hdL (by simp only at hc; omega) (by simp only at hs; omega) hcR hsR hK hKs g1 g2 g3)
      · intro v H1 locs1 hq1 gW gS
        rcases hcont with ⟨v', q2, h, hE2, rfl⟩ | ⟨x', h, -⟩ | ⟨x', hp2, r2, q2, h, -⟩
        · rw [hq1] at h
          cases h
          have g := ih (d' + 1) m _ q2 hE2 p e R s mm args below meth cd H1 locs1 (cells + q1.2.2) (slots + 6 * q1.2.2) ls mc ms hC hdR hdL (by simp only at hc; omega) (by simp only at hs; omega) hcR hsR hK hKs gW gS hL
          dsimp only at g
          rw [hnx] at g
          have e1 : ((v.toList ++ rest).map (rl ad)) = (v.map (rl ad)).toList ++ rest.map (rl ad) := by cases v <;> simp
          rw [e1] at g
          exact g
        · rw [h] at hq1; cases hq1
        · rw [h] at hq1; cases hq1
    · rw [hSn, ← hp]
      exact thr_sound hC hKs hok hk hmh (by omega) (by omega) hc hs hcR hsR hWd hS hL.1
end SND
