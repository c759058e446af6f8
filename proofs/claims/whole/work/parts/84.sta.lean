/-! the walk of the law to its loop -/
section
variable {p : Program} {l : Launch} {e : Env} {R : Room} {s : State} {m : MethodId} {args : Array Value} {below : List Frame} {meth : Method} {c : Code} {H H0 : Heap} {locs : List Loc} {cells slots : Nat} {Q : State → Prop}
variable {D : va_G} {cI cJ : ClassId} {cc : ByteArray} {own : String} {A : Nat → Prop} {pc nL : Nat} {ls : Array Slot} {X : va_W}
set_option maxHeartbeats 1000000 in
theorem mk_new {U9 : Type} {fd : List Value} {y : MethodName} {yb : ByteArray} {fr lo mc ms : Nat} {w1 : Nat → U9 → va_W} (cj iN iI : Nat) (S : CallFix p m c cc nL s args lw_tbl own) (hnw : ∀ w ∈ lw_tbl, isNW w = true → va_Nw w s) (hM : Ini l y yb fr lo mc ms cj fd w1 D cI cJ) (hls : ls.size = nL)
    (hK : va_K D cls9 (tys9 cI cJ) s) (hP : va_P D cls9 X H) (hD : va_D A X) (hS : va_S A H0 H locs) (hA : ∀ q, H0.size ≤ q → A q)
    (hc : cj < 6) (hfd : ∀ j, j < nf cj → defaultValue (fty cj j) = vp_V fd j)
    (hw : Cond.classLink own iN (fK cj) ∈ lw_tbl ∧ Cond.instantiable (fK cj) (nf cj) ∈ lw_tbl ∧ Cond.initialized (fK cj) ∈ lw_tbl ∧ Cond.methodLink own iI y ∈ lw_tbl ∧ Cond.instanceMethod y ∈ lw_tbl ∧ Cond.code y yb 1 none ∈ gtb)
    (hy : y.cls = fK cj ∧ y.name = "<init>" ∧ y.cls ≠ "java/lang/invoke/MethodHandle" ∧ y.cls ≠ "java/lang/invoke/VarHandle" ∧ (parseMethodDescriptor y.desc).map (fun d => d.parameters.length) = some 0)
    (hroom : fr + 1 ≤ R.frames ∧ 20 + lo ≤ R.locals ∧ cells + 1 + mc ≤ R.cells ∧ slots + nf cj + ms ≤ R.slots)
    (hdg : decode cc pc = .ok (.new iN, 3) ∧ decode cc (pc + 3) = .ok (.dup, 1) ∧ decode cc (pc + 3 + 1) = .ok (.invokespecial iI, 3))
    (kk : ∀ (q : Nat) (u : U9) (H3 : Heap) (locs3 : List Loc), va_P D cls9 (X ++ w1 q u) H3 → va_D A (X ++ w1 q u) → va_S A H0 H3 locs3 → W p l e R s m args below meth c H3 locs3 (cells + 1 + mc) (slots + nf cj + ms) Q (F0 m (pc + 3 + 1 + 3) ls [.ref q])) :
    W p l e R s m args below meth c H locs cells slots Q (F0 m pc ls []) := by
  obtain ⟨hx, hb, hml, hown, hts⟩ := id S
  obtain ⟨w1', w2', w3', w4', w5', w6'⟩ := hw
  obtain ⟨d1, d2, d3⟩ := hdg
  obtain ⟨r1, r2, r3, r4⟩ := hroom
  have hT : ∀ w ∈ gtb, w ∈ lw_tbl := fun w h => (gtb_good h).1
  refine va_new (ci := cj) (fs := fd) (C := fK cj) (T := fT cj) (N := nf cj) hx hb hts (fun w h => hT w (fld_in cj hc w h)) (fty cj) (fty_ok cj hc) hown (hts _ w1') (hts _ w2') (hts _ w3') hK hP hD hS hA (cls9_at hc) hfd (by omega) (by omega) d1 (fun q H1 hP hD hS => ?_)
  refine lv_dup hx hb d2 rfl ?_
  have aty : (X ++ [(q, Sum.inr (cj, fd))] : va_W)[X.length]? = some (q, .inr (cj, fd)) := by rw [List.getElem?_append_right (Nat.le_refl _), Nat.sub_self]; rfl
  have hPc : va_P D cls9 [(q, .inr (cj, fd))] H1 := by
    intro k x hk
    have hj : k = 0 := by
      have := (List.getElem?_eq_some_iff.mp hk).1
      simpa using this
    subst hj
    have ex : (q, Sum.inr (cj, fd)) = x := Option.some.inj hk
    rw [← ex]
    exact hP _ _ aty
  have hDc : va_D (fun _ => True) [(q, .inr (cj, fd))] := by
    refine ⟨fun i j a b hi hj _ => ?_, fun _ _ _ => trivial⟩
    have h1 : i < 1 := (List.getElem?_eq_some_iff.mp hi).1
    have h2 : j < 1 := (List.getElem?_eq_some_iff.mp hj).1
    omega
  have hFc : ∀ z, va_A [(q, .inr (cj, fd))] H1.size z → A z := by
    intro z hz
    rcases hz with ⟨k, e, hz⟩ | hz
    · have hj : k = 0 := by
        have := (List.getElem?_eq_some_iff.mp hz).1
        simpa using this
      subst hj
      have ex : (q, Sum.inr (cj, fd)) = (z, e) := Option.some.inj hz
      have := hD.2 _ _ aty
      rw [ex] at this
      exact this
    · exact hA z (Nat.le_trans hS.1 hz)
  refine va_callv (va_runI (As := []) (rest := [.ref q]) S (hM q H1.size) (cwI 0 hts (good_in hT w6') rfl rfl rfl (by rw [hy.1]; exact hts _ w3') (hts _ w4') (hts _ w5') hy.2.1 ⟨hy.2.2.1, hy.2.2.2.1, hy.2.2.2.2⟩ ⟨r1, r2⟩) ⟨IP.blind, fun U hU hW => ⟨rfl, by rw [hU], by rw [hU]; exact hPc, va_K.moved hW.alike hK, hDc, fun w hw hn => nw_warm hn hW (hnw w hw hn)⟩⟩ rfl rfl hls rfl (lv_room (Nat.le_of_ble_eq_true rfl)) d3 ⟨r3, r4⟩) hS (fun z _ h => hFc z h) hFc (fun u t H2 locs ht2 hvm hw hB hz1 hk1 hS => ?_)
  obtain ⟨hP1, hD1⟩ := hB
  rw [ht2] at hP1
  obtain ⟨hP, hD⟩ := jn hP hD hk1 hFc hP1 hD1
  exact kk q u H2 locs hP hD hS
end
def R_law : String := "NumberModelsLaw"
def lw_P (b : Addr) (xs : List Int32) (args : Array Value) (s : State) : Prop := args = #[.ref b] ∧ s.IntsAt b xs ∧ xs.length ≤ 3072 ∧ (Jvm.Cond.and given_1 narrow_1).before args s = true
def lw_Q (_ : Array Value) (s : State) (o : Outcome) (t : State) : Prop := o = .returned (some (.int 1)) ∧ Framed s o t [] 1083 11729
def lw_Z (below : List Frame) (a : Array Value) (s : State) : State → Prop := fun t => ∃ o, t.status = .running ∧ Ended t below o ∧ lw_Q a s o t
def lw_At (p : Program) (s : State) (m : MethodId) (meth : Method) (c : Code) (b L : Nat) (xs : Nat → Int32) : Prop :=
  p.tables.exec = Jvm.exec ∧ c.code = code ∧ meth.sig.returnType = ret ∧ c.maxLocals = 8 ∧ s.vm.findClass R_law = some m.cls ∧ (∀ w ∈ lw_tbl, w.before #[Value.ref b] s = true) ∧ va_X b L xs s s.heap ∧ b < s.heap.size ∧ meth.locks = false ∧ (Jvm.Cond.and given_1 narrow_1).before #[Value.ref b] s = true
theorem fd4 : ∀ j, j < nf 4 → defaultValue (fty 4 j) = vp_V [.null, .null, .int 0, .null, .null, .null, .null, .null, .null, .null] j := by decide +kernel
theorem fd5 : ∀ j, j < nf 5 → defaultValue (fty 5 j) = vp_V [.int 0, .int 0, .null, .null, .null, .int 0, .int 0, .int 0, .int 0, .int 0] j := by decide +kernel
theorem ins_in : ∀ c, c < 6 → Cond.instantiable (fK c) (nf c) ∈ lw_tbl := by decide +kernel
theorem arr_in : Cond.arrayClass .int ∈ lw_tbl ∧ Cond.arrayClass .long ∈ lw_tbl := by decide +kernel
/-- the classes, as the tables have them -/
theorem K_start {s : State} {args : Array Value} (hts : ∀ w ∈ lw_tbl, w.before args s = true) : ∃ (D : va_G) (cI cJ : ClassId), va_K D cls9 (tys9 cI cJ) s := by
  have h : ∀ c, ∃ q : ClassId × (Nat → Nat), c < 6 → u_Kn s (fK c) (fT c) (nf c) q.1 q.2 := by
    intro c
    by_cases hc : c < 6
    · obtain ⟨cC, iS, hk⟩ := u_known (ws := lw_tbl) (C := fK c) (T := fT c) (N := nf c) (n := nf c) hts (fun w h => (gtb_good (fld_in c hc w h)).1) (hts _ (ins_in c hc))
      exact ⟨(cC, iS), fun _ => hk⟩
    · exact ⟨(0, fun _ => 0), fun z => absurd z hc⟩
  obtain ⟨cI, kI, cpI, fI, hkI, hdI⟩ := Cond.arrayClass_spec (hts _ arr_in.1)
  obtain ⟨cJ, kJ, cpJ, fJ, hkJ, hdJ⟩ := Cond.arrayClass_spec (hts _ arr_in.2)
  refine ⟨(fun c => (Classical.choose (h c)).1, fun c => (Classical.choose (h c)).2), cI, cJ, ?_, ?_⟩
  · intro c q hq
    have hc : c < 6 := (List.getElem?_eq_some_iff.mp hq).1
    have e := (cls9_at hc).symm.trans hq
    cases e
    exact Classical.choose_spec (h c) hc
  · intro k q hq
    match k, hq with
    | 0, hq => cases hq; exact ⟨fun n z => ⟨(fun _ h => by cases h), kI, hkI, cpI, hdI⟩, fI⟩
    | 1, hq => cases hq; exact ⟨fun n z => ⟨(fun _ h => by cases h), kJ, hkJ, cpJ, hdJ⟩, fJ⟩
    | k + 2, hq => simp [tys9] at hq
def adL (L : List Nat) (i : Nat) : Nat := L.getD i 0
set_option maxHeartbeats 4000000 in
set_option maxRecDepth 100000 in
theorem whole_start {p : Program} {e : Env} {s : State} {m : MethodId} {below : List Frame} {meth : Method} {c : Code} (l : Launch) (hst : l.stackTraces = false) {b L : Nat} {xs : Nat → Int32} (hL : L ≤ 3072) (C0 : lw_At p s m meth c b L xs) (htab : c.exceptionTable.toList = []) : W p l e room_1 s m #[Value.ref b] below meth c s.heap [] 0 0 (lw_Z below #[Value.ref b] s) (entryFrame m ([Value.ref b] : List Value).toArray 8) := by
  obtain ⟨hx, hb, hr, hml, hown, hts, hX, hbl, hlocks, hgv⟩ := id C0
  have hA : ∀ q : Nat, s.heap.size ≤ q → (fun q : Nat => s.heap.size ≤ q) q := fun _ h => h
  obtain ⟨D, cI, cJ, hK⟩ := K_start hts
  have hnw : ∀ w ∈ lw_tbl, isNW w = true → va_Nw w s := fun w hw hn => va_Nw.of (nw_on hn) (hts w hw)
  obtain ⟨a46, h46⟩ := fmt_at hgv (i := 0) (by decide)
  obtain ⟨a47, h47⟩ := fmt_at hgv (i := 1) (by decide)
  have hS : va_S (fun q : Nat => s.heap.size ≤ q) s.heap s.heap [] := va_S.rf
  have hP : va_P D cls9 [] s.heap := fun k q h => by simp at h
  have hD : va_D (fun q : Nat => s.heap.size ≤ q) [] := ⟨fun i j p q h => by simp at h, fun k q h => by simp at h⟩
  have hl := lv_entry ([.ref b]) (n := 8) (Nat.le_of_ble_eq_true rfl)
  rw [lg_entry_eq]
  generalize (lg_sl ([.ref b]) ++ List.replicate (8 - (lg_sl ([.ref b])).length) Slot.unset).toArray = ls at hl ⊢
  have hl : lv_has ls 8 [(0, .ref b)] := hl
  have S0 : CallFix p m c code 8 s #[Value.ref b] lw_tbl R_law := ⟨hx, hb, hml, hown, hts⟩
  refine mk_new 4 8 70 S0 hnw i_num hl.1 hK hP hD hS hA (by decide) fd4 (by decide +kernel) (by decide +kernel) (by decide) (by decide +kernel) (fun q1 u1 H locs hP hD hS => ?_)
  refine lv_astore_n (k := 1) (lv' := [(1, .ref q1), (0, .ref b)]) hx hb (by decide +kernel) rfl hl (by decide) rfl (fun ls hl => ?_)
  refine mk_new 5 71 73 S0 hnw i_mod hl.1 hK hP hD hS hA (by decide) fd5 (by decide +kernel) (by decide +kernel) (by decide) (by decide +kernel) (fun q2 u2 H locs hP hD hS => ?_)
  refine lv_astore_n (k := 2) (lv' := [(2, .ref q2), (1, .ref q1), (0, .ref b)]) hx hb (by decide +kernel) rfl hl (by decide) rfl (fun ls hl => ?_)
  refine lv_iconst (n := 1) (v := 1) hx hb (by decide +kernel) (by decide) ?_
  refine va_newa (atype := .long) (ty := .long) (N' := 1) (a0 := (1, .inr (.inl fun _ => 0))) hx hb (hts _ arr_in.2) rfl hK hP hD hS hA (fun _ => rfl) (by decide) (by decide) (by decide) (by decide) (by decide) (by decide +kernel) (fun q3 cA H hK1 hP hD hS => ?_)
  have ecA := unJ hK cA (hK1.2 2 _ rfl).2
  subst ecA
  refine lv_astore_n (k := 3) (lv' := [(3, .ref q3), (2, .ref q2), (1, .ref q1), (0, .ref b)]) hx hb (by decide +kernel) rfl hl (by decide) rfl (fun ls hl => ?_)
  refine lv_iconst (n := 0) (v := 0) hx hb (by decide +kernel) (by decide) ?_
  refine lv_istore (i := 4) (lv' := [(4, .int 0), (3, .ref q3), (2, .ref q2), (1, .ref q1), (0, .ref b)]) hx hb (by decide +kernel) hl (by decide) rfl (fun ls hl => ?_)
  obtain ⟨w, sd, ⟨r1, ⟨t1, ta1⟩, ⟨b1, ba1⟩⟩, ⟨r2, ⟨t2, ta2⟩, ⟨b2, ba2⟩⟩, ⟨r3, ⟨t3, ta3⟩, ⟨b3, ba3⟩⟩, ⟨n1, na1⟩, ⟨n2, na2⟩, ⟨dd, ⟨dq, dqa⟩, ⟨dr, dra⟩, ⟨dv, dva⟩⟩, ⟨co, ⟨cf, cfa⟩, ⟨cn, cna⟩, ⟨cd, ⟨eq, eqa⟩, ⟨er, era⟩, ⟨ev, eva⟩⟩⟩⟩ := u1
  obtain ⟨ms, mv, mw⟩ := u2
  generalize had : adL [q1, q2, co, dd, cd, r1, r2, r3, t1, b1, t2, b2, t3, b3, n1, n2, dq, dr, dv, cf, cn, eq, er, ev, ta1, ba1, ta2, ba2, ta3, ba3, na1, na2, dqa, dra, dva, cfa, cna, eqa, era, eva, w, sd, ms, mv, mw, q3, a46, a47, b] = ad
  have hP2 : va_P D cls9 (wls ad cI cA (σ00 L xs)) H := by
    rw [← had]
    exact hP.sub [0, 41, 29, 22, 34, 3, 8, 13, 4, 6, 9, 11, 14, 16, 18, 20, 23, 25, 27, 30, 32, 35, 37, 39, 5, 7, 10, 12, 15, 17, 19, 21, 24, 26, 28, 31, 33, 36, 38, 40, 1, 2, 42, 43, 44, 45] rfl
  have hD2 : va_D (fun q : Nat => s.heap.size ≤ q) (wls ad cI cA (σ00 L xs)) := by
    rw [← had]
    exact hD.sub [0, 41, 29, 22, 34, 3, 8, 13, 4, 6, 9, 11, 14, 16, 18, 20, 23, 25, 27, 30, 32, 35, 37, 39, 5, 7, 10, 12, 15, 17, 19, 21, 24, 26, 28, 31, 33, 36, 38, 40, 1, 2, 42, 43, 44, 45] (by decide) rfl
  have hge : ∀ i, i < 46 → s.heap.size ≤ ad i := fun i hi => hD2.2 i _ (wls_at hi)
  have hAw : ∀ q, Aw ad s.heap.size q → s.heap.size ≤ q := by
    intro q h
    rcases h with ⟨i, hi, e⟩ | h
    · rw [e]; exact hge i hi
    · exact h
  have hAw2 : ∀ q, s.heap.size ≤ q → Aw ad s.heap.size q := fun q h => Or.inr h
  have hS2 : va_S (Aw ad s.heap.size) s.heap H locs := ⟨hS.1, fun q h1 h2 => hS.2.1 q h1 (fun z => h2 (hAw2 q z)), fun z hz => hAw2 _ (hS.2.2 z hz)⟩
  have hWd : Wd D ad cI cA L xs (Aw ad s.heap.size) (σ00 L xs) H := ⟨hP2, hD2.weaken (fun _ _ _ h => hAw2 _ h), rfl, rfl⟩
  have hKs : Ks ad L xs (Aw ad s.heap.size) s s.heap := by
    refine Ks_start hts hgv hK hX hbl (fun a ha h => absurd (hAw a h) (by omega)) (fun i hi => ?_) (by rw [← had]; rfl)
    rcases (show i = 0 ∨ i = 1 by omega) with rfl | rfl
    · rw [h46, ← had]; rfl
    · rw [h47, ← had]; rfl
  have hLH : LH ad ls (mxl 181) [some (.ref 48), some (.ref 0), some (.ref 1), some (.ref 45), some (.int 0), none, none, none] := by
    refine LH.of (nL := 8) hl rfl ?_
    intro k v hk
    rw [← had]
    match k, hk with
    | 0, hk => cases hk; exact List.mem_of_getElem? (i := 4) rfl
    | 1, hk => cases hk; exact List.mem_of_getElem? (i := 3) rfl
    | 2, hk => cases hk; exact List.mem_of_getElem? (i := 2) rfl
    | 3, hk => cases hk; exact List.mem_of_getElem? (i := 1) rfl
    | 4, hk => cases hk; exact List.mem_of_getElem? (i := 0) rfl
    | 5, hk => cases hk
    | 6, hk => cases hk
    | 7, hk => cases hk
    | k + 8, hk => cases hk
  obtain ⟨S2, cnt, hcnt, nE, hEv⟩ := law_00 (xs := xs) hL
  have hW := snd_all (l := l) (D := D) (ad := ad) (cI := cI) (cJ := cA) (N := L) (xs := xs) hst nE 14 181 _ _ hEv p e room_1 s m #[Value.ref b] below meth c H locs 46 3459 ls 1083 11729 ⟨hx, hb, hr, hml, hown, fun w hw => hts w (gtb_good hw).1, hlocks, htab, hst⟩ (by decide) (by decide) (by show 46 + cnt ≤ 1083; omega) (by show 3459 + 6 * cnt ≤ 11729; omega) (by decide) (by decide) hK hKs hWd hS2 hLH
  intro T hT X
  obtain ⟨t, st, o, g1, g2, g3⟩ := hW T hT X
  refine ⟨t, st, o, g1, g2, ?_⟩
  rcases g3 with ⟨⟨⟨v, ev, eo⟩, _, _⟩, Lc, ⟨_, hWm, hsb⟩, hfr⟩ | ⟨q, _, E, ce, L9, ⟨⟨x9, ex9, _⟩, _⟩, _⟩
  · have e1 : v = some (.int 1) := (Sum.inl.inj ev).symm
    rw [e1] at eo
    have eo : o = .returned (some (.int 1)) := eo
    exact ⟨eo, ⟨_, eo⟩, hWm, same_new hsb (fun z hz => hAw _ (hfr z hz))⟩
  · cases ex9
