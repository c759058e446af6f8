/-! constructors: their contracts' form, and what each of them does with a field -/
def IP (D : va_G) (cI cJ : ClassId) (sz q ci : Nat) (fd : List Value) : State → Prop := fun U => U.heap.size = sz ∧ va_P D cls9 [(q, .inr (ci, fd))] U.heap ∧ va_K D cls9 (tys9 cI cJ) U ∧ va_D (fun _ => True) [(q, .inr (ci, fd))] ∧ ∀ w ∈ lw_tbl, isNW w = true → va_Nw w U
def IB {S : Type} (D : va_G) (A : Nat → Prop) (w1 : S → va_W) : S → State → Prop := fun u t => va_P D cls9 (w1 u) t.heap ∧ va_D A (w1 u)
def Ini {S : Type} (l : Launch) (y : MethodName) (b : ByteArray) (fr lo mc ms ci : Nat) (fd : List Value) (w1 : Nat → S → va_W) (D : va_G) (cI cJ : ClassId) : Prop :=
  ∀ q sz, Met l y (Cond.code y b 1 none :: gtb) ({ frames := fr, cells := mc, slots := ms, locals := lo } : Room) (va_Pc [.ref q] (IP D cI cJ sz q ci fd)) (va_Qv (fun _ : S => True) (IB D (va_A [(q, .inr (ci, fd))] sz) (w1 q)) (va_A [(q, .inr (ci, fd))] sz)) mc ms (va_A [(q, .inr (ci, fd))] sz)
theorem IP.blind {D : va_G} {cI cJ : ClassId} {sz q ci : Nat} {fd : List Value} : FrameBlind (va_Pc [.ref q] (IP D cI cJ sz q ci fd)) := by
  intro a U g mk h
  obtain ⟨h1, h2, h3, h4, h5, h6⟩ := h
  exact ⟨h1, h2, h3, va_K.moved (u := U) (U := U.calling g mk a) (Vm.Alike.refl U.vm) h4, h5, fun w hw hn => va_Nw.same (u := U) (U := U.calling g mk a) (nw_on hn) rfl (h6 w hw hn)⟩
theorem gtb_good {w : Cond} (h : w ∈ gtb) : w ∈ lw_tbl ∧ goodWord w = true := List.mem_filter.mp h
theorem good_in {Ts : List Cond} {y : MethodName} {b : ByteArray} (hT : ∀ w ∈ gtb, w ∈ Ts) (hc : Cond.code y b 1 none ∈ gtb) : GoodIn Ts (Cond.code y b 1 none :: gtb) := by
  intro w hw
  have h : w ∈ gtb := by
    rcases List.mem_cons.mp hw with e | e
    · rw [e]; exact hc
    · exact e
  exact ⟨hT w h, good_of_word (gtb_good h).2⟩
/-- behind a call over the last cell -/
theorem jn {A0 : Nat → Prop} {D : va_G} {X w1 : va_W} {y : Nat × va_E} {H H1 : Heap} (hP : va_P D cls9 (X ++ [y]) H) (hD : va_D A0 (X ++ [y])) (hk : ∀ q : Nat, q < H.size → ¬ va_A [y] H.size q → H1[q]? = H[q]?) (hF : ∀ q, va_A [y] H.size q → A0 q) (hP1 : va_P D cls9 w1 H1) (hD1 : va_D (va_A [y] H.size) w1) : va_P D cls9 (X ++ w1) H1 ∧ va_D A0 (X ++ w1) := by
  have at1 : ∀ (k : Nat) (q : Nat × va_E), X[k]? = some q → k < X.length ∧ (X ++ [y])[k]? = some q := by
    intro k q h
    have hl := (List.getElem?_eq_some_iff.mp h).1
    exact ⟨hl, by rw [List.getElem?_append_left hl]; exact h⟩
  have aty : (X ++ [y])[X.length]? = some y := by rw [List.getElem?_append_right (Nat.le_refl _), Nat.sub_self]; rfl
  have apart : ∀ (k : Nat) (q : Nat × va_E), X[k]? = some q → q.1 < H.size ∧ ¬ va_A [y] H.size q.1 := by
    intro k q h
    obtain ⟨hl, h2⟩ := at1 k q h
    have hlt := (hP k q h2).lt
    refine ⟨hlt, fun z => ?_⟩
    rcases z with ⟨j, e, z⟩ | z
    · have hj : j = 0 := by
        have := (List.getElem?_eq_some_iff.mp z).1
        simpa using this
      subst hj
      have ey : y = (q.1, e) := Option.some.inj z
      have := hD.1 k X.length q y h2 aty (by rw [ey])
      omega
    · omega
  have hDX : va_D A0 X := ⟨fun i j a b h1 h2 e => hD.1 i j a b (at1 i a h1).2 (at1 j b h2).2 e, fun k q h => hD.2 k q (at1 k q h).2⟩
  refine ⟨va_P.app (fun k q hq => ?_) hP1, va_D.app hDX (hD1.weaken (fun k q _ h => hF q.1 h)) (fun i j a b ha hb e => ?_)⟩
  · obtain ⟨g1, g2⟩ := apart k q hq
    exact (hP k q (at1 k q hq).2).kept (hk q.1 g1 g2)
  · exact (apart i a ha).2 (by rw [e]; exact hD1.2 j b hb)
section
variable {p : Program} {l : Launch} {e : Env} {R : Room} {s : State} {m : MethodId} {args : Array Value} {below : List Frame} {meth : Method} {c : Code} {H H0 : Heap} {locs : List Loc} {cells slots : Nat} {Q : State → Prop}
variable {D : va_G} {cI cJ : ClassId} {cc : ByteArray} {own : String} {A : Nat → Prop} {Ts : List Cond} {pc : Nat} {ls : Array Slot} {h0 : Nat} {fs : List Value} {X : va_W}
set_option maxHeartbeats 1000000 in
/-- new C; dup; C.<init>; putfield -/
theorem mk_obj {U9 : Type} {fd : List Value} {y : MethodName} {yb : ByteArray} {fr lo mc ms : Nat} {w1 : Nat → U9 → va_W} (ci cj k iN iI iF : Nat) (S : CallFix p m c cc 1 s args Ts own) (hT : ∀ w ∈ gtb, w ∈ Ts) (hnw : ∀ w ∈ lw_tbl, isNW w = true → va_Nw w s) (hM : Ini l y yb fr lo mc ms cj fd w1 D cI cJ) (hls : ls.size = 1) (hin2 : meth.name = "<init>")
    (hK : va_K D cls9 (tys9 cI cJ) s) (hP : va_P D cls9 ((h0, .inr (ci, fs)) :: X) H) (hD : va_D A ((h0, .inr (ci, fs)) :: X)) (hS : va_S A H0 H locs) (hA : ∀ q, H0.size ≤ q → A q)
    (hc : ci < 6 ∧ cj < 6 ∧ k < nf ci) (hl : k < fs.length) (hfd : ∀ j, j < nf cj → defaultValue (fty cj j) = vp_V fd j)
    (hw : Cond.classLink own iN (fK cj) ∈ gtb ∧ Cond.instantiable (fK cj) (nf cj) ∈ gtb ∧ Cond.initialized (fK cj) ∈ gtb ∧ Cond.methodLinkNest own iI y "NumberModels" ∈ lw_tbl ∧ Cond.instanceMethod y ∈ gtb ∧ Cond.code y yb 1 none ∈ gtb ∧ Cond.fieldLink own iF (fT ci k).1 (fT ci k).2.1 (fT ci k).2.2.1 ∈ gtb)
    (hy : y.cls = fK cj ∧ y.name = "<init>" ∧ y.cls ≠ "java/lang/invoke/MethodHandle" ∧ y.cls ≠ "java/lang/invoke/VarHandle" ∧ (parseMethodDescriptor y.desc).map (fun d => d.parameters.length) = some 0)
    (ht : (fT ci k).2.2.2 = true ∧ (fT ci k).1 = own) {ty : FieldType} (hty : parseFieldDescriptor (fT ci k).2.2.1 = some ty) (hnr : ∀ q : Nat, narrow ty (.ref q) = .ref q) (hft : ∀ q : Nat, fits ty (.ref q) = true)
    (hroom : fr + 1 ≤ R.frames ∧ 20 + lo ≤ R.locals ∧ cells + 1 + mc ≤ R.cells ∧ slots + nf cj + ms ≤ R.slots)
    (hdg : decode cc pc = .ok (.new iN, 3) ∧ decode cc (pc + 3) = .ok (.dup, 1) ∧ decode cc (pc + 3 + 1) = .ok (.invokespecial iI, 3) ∧ decode cc (pc + 3 + 1 + 3) = .ok (.putfield iF, 3))
    (kk : ∀ (q : Nat) (u : U9) (H3 : Heap) (locs3 : List Loc), va_P D cls9 ((h0, .inr (ci, fs.set k (.ref q))) :: (X ++ w1 q u)) H3 → va_D A ((h0, .inr (ci, fs.set k (.ref q))) :: (X ++ w1 q u)) → va_S A H0 H3 locs3 → W p l e R s m args below meth c H3 locs3 (cells + 1 + mc) (slots + nf cj + ms) Q (F0 m (pc + 3 + 1 + 3 + 3) ls [])) :
    W p l e R s m args below meth c H locs cells slots Q (F0 m pc ls [.ref h0]) := by
  obtain ⟨hx, hb, hml, hown, hts⟩ := id S
  obtain ⟨w1', w2', w3', w4', w5', w6', w7'⟩ := hw
  obtain ⟨d1, d2, d3, d4⟩ := hdg
  obtain ⟨r1, r2, r3, r4⟩ := hroom
  refine va_new (ci := cj) (fs := fd) (C := fK cj) (T := fT cj) (N := nf cj) hx hb hts (fun w h => hT w (fld_in cj hc.2.1 w h)) (fty cj) (fty_ok cj hc.2.1) hown (hts _ (hT _ w1')) (hts _ (hT _ w2')) (hts _ (hT _ w3')) hK hP hD hS hA (cls9_at hc.2.1) hfd (by omega) (by omega) d1 (fun q H1 hP hD hS => ?_)
  refine lv_dup hx hb d2 rfl ?_
  have aty : (((h0, .inr (ci, fs)) :: X) ++ [(q, Sum.inr (cj, fd))] : va_W)[((h0, Sum.inr (ci, fs)) :: X : va_W).length]? = some (q, .inr (cj, fd)) := by rw [List.getElem?_append_right (Nat.le_refl _), Nat.sub_self]; rfl
  have hPc : va_P D cls9 [(q, .inr (cj, fd))] H1 := by
    intro k x hk
    have hj : k = 0 := by
      have := (List.getElem?_eq_some_iff.mp hk).1
      simpa using this
    subst hj
    have ex : (q, Sum.inr (cj, fd)) = x := Option.some.inj hk
    rw [← ex]
    exact hP _ _ aty
  have hDc : va_D (fun _ => True) [(q, .inr (cj, fd))] := by
    refine ⟨fun i j a b hi hj _ => ?_, fun _ _ _ => trivial⟩
    have h1 := (List.getElem?_eq_some_iff.mp hi).1
    have h2 := (List.getElem?_eq_some_iff.mp hj).1
    have h1 : i < 1 := h1
    have h2 : j < 1 := h2
    omega
  have hFc : ∀ z, va_A [(q, .inr (cj, fd))] H1.size z → A z := by
    intro z hz
    rcases hz with ⟨k, e, hz⟩ | hz
    · have hj : k = 0 := by
        have := (List.getElem?_eq_some_iff.mp hz).1
        simpa using this
      subst hj
      have ex : (q, Sum.inr (cj, fd)) = (z, e) := Option.some.inj hz
      have := hD.2 _ _ aty
      rw [ex] at this
      exact this
    · exact hA z (Nat.le_trans hS.1 hz)
  refine va_callv (va_runIN (As := []) (rest := [.ref q, .ref h0]) (host := "NumberModels") S (hM q H1.size) ⟨va_cnB 0 hts (good_in hT w6') rfl rfl rfl (hnw _ w4' rfl) (by rw [hy.1]; exact hts _ (hT _ w3')) ⟨hy.2.2.1, hy.2.2.2.1, hy.2.2.2.2⟩ ⟨r1, r2⟩, hy.2.1, hts _ (hT _ w5')⟩ ⟨IP.blind, fun U hU hW => ⟨rfl, by rw [hU], by rw [hU]; exact hPc, va_K.moved hW.alike hK, hDc, fun w hw hn => nw_warm hn hW (hnw w hw hn)⟩⟩ rfl rfl hls rfl (lv_room (Nat.le_of_ble_eq_true rfl)) d3 ⟨r3, r4⟩) hS (fun z _ h => hFc z h) hFc (fun u t H2 locs ht2 hvm hw hB hz1 hk1 hS => ?_)
  obtain ⟨hP1, hD1⟩ := hB
  rw [ht2] at hP1
  obtain ⟨hP, hD⟩ := jn hP hD hk1 hFc hP1 hD1
  refine va_putF (C := fK ci) (T := fT ci) (N := nf ci) (ci := ci) hx hb hts (fun w h => hT w (fld_in ci hc.1 w h)) (fty ci) (fty_ok ci hc.1) (fnm_ok ci hc.1) hown hK hP hD hS 0 rfl (cls9_at hc.1) k hc.2.2 (hts _ (hT _ w7')) (fun _ h => h) ht.1 hin2 ht.2 hty (hnr q) (hft q) hl d4 (fun H3 locs3 hP hD hS => ?_)
  exact kk q u H3 locs3 hP hD hS
set_option maxHeartbeats 1000000 in
/-- newarray; putfield -/
theorem mk_arr {atype : ArrayType} {ty : FieldType} {n : Int32} {N' : Nat} {a0 : vp_A} {ct : ClassId} (ci k iF : Nat) (S : CallFix p m c cc 1 s args Ts own) (hT : ∀ w ∈ gtb, w ∈ Ts) (hin2 : meth.name = "<init>")
    (hK : va_K D cls9 (tys9 cI cJ) s) (hP : va_P D cls9 ((h0, .inr (ci, fs)) :: X) H) (hD : va_D A ((h0, .inr (ci, fs)) :: X)) (hS : va_S A H0 H locs) (hA : ∀ q, H0.size ≤ q → A q)
    (hat : newarray.typeOf atype = ty) (ha : ∀ cA : ClassId, vp_cell cA a0 = arrV cA N' (fun _ => defaultValue ty)) (hun : ∀ cA, va_RA s cA ty → cA = ct) (hn : ¬ n < 0 ∧ n.toNatClampNeg = N' ∧ N' * componentBytes ty ≤ 536870912)
    (hc : ci < 6 ∧ k < nf ci) (hl : k < fs.length) (hw : Cond.arrayClass ty ∈ gtb ∧ Cond.fieldLink own iF (fT ci k).1 (fT ci k).2.1 (fT ci k).2.2.1 ∈ gtb)
    (ht : (fT ci k).2.2.2 = true ∧ (fT ci k).1 = own) {tf : FieldType} (hty : parseFieldDescriptor (fT ci k).2.2.1 = some tf) (hnr : ∀ q : Nat, narrow tf (.ref q) = .ref q) (hft : ∀ q : Nat, fits tf (.ref q) = true)
    (hroom : cells + 1 ≤ R.cells ∧ slots + N' ≤ R.slots) (hdg : decode cc pc = .ok (.newarray atype, 2) ∧ decode cc (pc + 2) = .ok (.putfield iF, 3))
    (kk : ∀ (q : Nat) (H3 : Heap) (locs3 : List Loc), va_P D cls9 ((h0, .inr (ci, fs.set k (.ref q))) :: (X ++ [(q, .inl (ct, a0))])) H3 → va_D A ((h0, .inr (ci, fs.set k (.ref q))) :: (X ++ [(q, .inl (ct, a0))])) → va_S A H0 H3 locs3 → W p l e R s m args below meth c H3 locs3 (cells + 1) (slots + N') Q (F0 m (pc + 2 + 3) ls [])) :
    W p l e R s m args below meth c H locs cells slots Q (F0 m pc ls [.int n, .ref h0]) := by
  obtain ⟨hx, hb, hml, hown, hts⟩ := id S
  subst hat
  refine va_newa hx hb (hts _ (hT _ hw.1)) rfl hK hP hD hS hA ha hn.1 hn.2.1 hn.2.2 hroom.1 hroom.2 hdg.1 (fun q cA H1 hK1 hP hD hS => ?_)
  have e := hun cA (hK1.2 2 _ rfl).2
  subst e
  refine va_putF (C := fK ci) (T := fT ci) (N := nf ci) (ci := ci) hx hb hts (fun w h => hT w (fld_in ci hc.1 w h)) (fty ci) (fty_ok ci hc.1) (fnm_ok ci hc.1) hown hK hP hD hS 0 rfl (cls9_at hc.1) k hc.2 (hts _ (hT _ hw.2)) (fun _ h => h) ht.1 hin2 ht.2 hty (hnr q) (hft q) hl hdg.2 (fun H3 locs3 hP hD hS => ?_)
  exact kk q H3 locs3 hP hD hS
end
set_option maxHeartbeats 1000000 in
/-- a constructor's entry, and Object's -/
theorem ini_of {S : Type} {l : Launch} {y : MethodName} {b : ByteArray} {fr lo mc ms ci iO : Nat} {fd : List Value} {w1 : Nat → S → va_W} {D : va_G} {cI cJ : ClassId} (hpl : plainName y.cls = true) (hyn : y.name = "<init>") (hO : Cond.methodLink y.cls iO objectInit ∈ gtb ∧ Cond.instanceMethod objectInit ∈ gtb ∧ Cond.code objectInit ⟨#[0xb1]⟩ 1 none ∈ gtb) (hd : decode b 0 = .ok (.aload_n 0, 1) ∧ decode b 1 = .ok (.invokespecial iO, 3)) (hfr : 1 ≤ fr) (hlo : 12 ≤ lo)
    (body : ∀ (p : Program) (e : Env) (s : State) (m : MethodId) (args : Array Value) (below : List Frame) (meth : Method) (c : Code) (q : Nat) (ls : Array Slot) (A : Nat → Prop), CallFix p m c b 1 s args (Cond.code y b 1 none :: gtb) y.cls → meth.name = "<init>" → meth.sig.returnType = none → meth.locks = false → lv_has ls 1 [(0, .ref q)] → va_K D cls9 (tys9 cI cJ) s → (∀ w ∈ lw_tbl, isNW w = true → va_Nw w s) → va_P D cls9 [(q, .inr (ci, fd))] s.heap → va_D A [(q, .inr (ci, fd))] → (∀ z, s.heap.size ≤ z → A z) →
      W p l e ({ frames := fr, cells := mc, slots := ms, locals := lo } : Room) s m args below meth c s.heap [] 0 0 (MQ below (va_Qv (fun _ : S => True) (IB D A (w1 q)) A) args s mc ms A) (F0 m 4 ls [])) : Ini l y b fr lo mc ms ci fd w1 D cI cJ := by
  intro q sz
  refine Met.ofW (cc := b) (maxL := 1) (ret := none) hpl rfl ?_
  intro p e s m args below meth c s₁ B hml hv
  obtain ⟨rfl, hsz, hP, hK, hD0, hN⟩ := hv
  have hx := B.exec
  have hb := B.bytes
  have hr := B.returns
  have hts := atoms_spec (ws := Cond.code y b 1 none :: gtb) B.pre
  have hown : s.vm.findClass y.cls = some m.cls := findClass_of_methodNamed B.named
  have hlocks := B.notSynchronized
  have hin : meth.name = "<init>" := ((name_of_methodNamed B.named B.method).1).trans hyn
  subst hsz
  have hD := hD0.self (sz := s.heap.size)
  generalize hAe : va_A [(q, .inr (ci, fd))] s.heap.size = A at hD ⊢
  have hA : ∀ q : Nat, s.heap.size ≤ q → A q := fun q h => by rw [← hAe]; exact Or.inr h
  have hl := lv_entry ([.ref q]) (n := 1) (Nat.le_of_ble_eq_true rfl)
  rw [lg_entry_eq]
  generalize (lg_sl ([.ref q]) ++ List.replicate (1 - (lg_sl ([.ref q])).length) Slot.unset).toArray = ls at hl ⊢
  have hl : lv_has ls 1 [(0, .ref q)] := hl
  refine lv_aload_n hx hb hd.1 rfl (lv_at hl 0 rfl) ?_
  refine W.objInit hx hb hown (hts _ (List.mem_cons_of_mem _ hO.1)) (hts _ (List.mem_cons_of_mem _ hO.2.1)) (hts _ (List.mem_cons_of_mem _ hO.2.2)) rfl (by rw [hml]; exact hl.1) rfl hd.2 hfr hlo ?_
  exact body p e s m _ below meth c q ls A ⟨hx, hb, hml, hown, hts⟩ hin hr hlocks hl hK hN hP hD hA
