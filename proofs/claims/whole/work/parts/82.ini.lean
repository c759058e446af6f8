/-! the six constructors -/
def yN : MethodName := ⟨"NumberModels$Natural", "<init>", "()V"⟩
def yR : MethodName := ⟨"NumberModels$Ratio", "<init>", "()V"⟩
def yD : MethodName := ⟨"NumberModels$Division", "<init>", "()V"⟩
def yC : MethodName := ⟨"NumberModels$CommonDivisor", "<init>", "()V"⟩
def yX : MethodName := ⟨"NumberModels", "<init>", "()V"⟩
def yM : MethodName := ⟨"NumberModelsModel", "<init>", "()V"⟩
def natW (cJ : ClassId) (h : Nat) (u : Nat) : va_W := [(h, .inr (2, [.ref u, .int 0])), (u, .inl (cJ, 20, .inr (.inl fun _ => 0)))]
def ratW (cJ : ClassId) (h : Nat) (u : (Nat × Nat) × (Nat × Nat)) : va_W := (h, .inr (3, [.ref u.1.1, .ref u.2.1, .int 0])) :: (natW cJ u.1.1 u.1.2 ++ natW cJ u.2.1 u.2.2)
def divW (cJ : ClassId) (h : Nat) (u : (Nat × Nat) × (Nat × Nat) × (Nat × Nat)) : va_W := (h, .inr (1, [.ref u.1.1, .ref u.2.1.1, .ref u.2.2.1])) :: (natW cJ u.1.1 u.1.2 ++ natW cJ u.2.1.1 u.2.1.2 ++ natW cJ u.2.2.1 u.2.2.2)
def comW (cJ : ClassId) (h : Nat) (u : (Nat × Nat) × (Nat × Nat) × (Nat × ((Nat × Nat) × (Nat × Nat) × (Nat × Nat)))) : va_W := (h, .inr (0, [.ref u.1.1, .ref u.2.1.1, .ref u.2.2.1, .long 0, .long 0, .long 0, .long 0])) :: (natW cJ u.1.1 u.1.2 ++ natW cJ u.2.1.1 u.2.1.2 ++ divW cJ u.2.2.1 u.2.2.2)
def modW (cI cJ : ClassId) (h : Nat) (u : Nat × Nat × Nat) : va_W := [(h, .inr (5, [.int 0, .int 0, .ref u.1, .ref u.2.1, .ref u.2.2, .int 0, .int 0, .int 0, .int 0, .int 0])), (u.1, .inl (cI, 60, .inl fun _ => 0)), (u.2.1, .inl (cJ, 960, .inr (.inl fun _ => 0))), (u.2.2, .inl (cJ, 1024, .inr (.inl fun _ => 0)))]
abbrev SR : Type := (Nat × Nat) × (Nat × Nat)
abbrev SDv : Type := (Nat × Nat) × (Nat × Nat) × (Nat × Nat)
abbrev SCo : Type := (Nat × Nat) × (Nat × Nat) × (Nat × SDv)
abbrev SX : Type := Nat × Nat × (Nat × SR) × (Nat × SR) × (Nat × SR) × (Nat × Nat) × (Nat × Nat) × (Nat × SDv) × (Nat × SCo)
def numW (cI cJ : ClassId) (h : Nat) : SX → va_W := fun ⟨w, s, r1, r2, r3, n1, n2, d, c⟩ =>
  (h, .inr (4, [.ref w, .ref s, .int 0, .ref r1.1, .ref r2.1, .ref r3.1, .ref n1.1, .ref n2.1, .ref d.1, .ref c.1])) :: ([(w, .inl (cJ, 960, .inr (.inl fun _ => 0)))] ++ [(s, .inl (cI, 60, .inl fun _ => 0))] ++ ratW cJ r1.1 r1.2 ++ ratW cJ r2.1 r2.2 ++ ratW cJ r3.1 r3.2 ++ natW cJ n1.1 n1.2 ++ natW cJ n2.1 n2.2 ++ divW cJ d.1 d.2 ++ comW cJ c.1 c.2)
section
variable {l : Launch} {D : va_G} {cI cJ : ClassId}
theorem fd2 : ∀ j, j < nf 2 → defaultValue (fty 2 j) = vp_V [.null, .int 0] j := by decide +kernel
theorem fd3 : ∀ j, j < nf 3 → defaultValue (fty 3 j) = vp_V [.null, .null, .int 0] j := by decide +kernel
theorem fd1 : ∀ j, j < nf 1 → defaultValue (fty 1 j) = vp_V [.null, .null, .null] j := by decide +kernel
theorem fd0 : ∀ j, j < nf 0 → defaultValue (fty 0 j) = vp_V [.null, .null, .null, .long 0, .long 0, .long 0, .long 0] j := by decide +kernel
theorem unJ {s : State} (hK : va_K D cls9 (tys9 cI cJ) s) : ∀ cA, va_RA s cA .long → cA = cJ := fun _ h => Option.some.inj (h.symm.trans (hK.2 1 _ rfl).2)
theorem unI {s : State} (hK : va_K D cls9 (tys9 cI cJ) s) : ∀ cA, va_RA s cA .int → cA = cI := fun _ h => Option.some.inj (h.symm.trans (hK.2 0 _ rfl).2)
set_option maxHeartbeats 1000000 in
theorem i_nat : Ini l yN prog_6_method_1_code 1 12 1 20 2 [.null, .int 0] (natW cJ) D cI cJ := by
  refine ini_of (iO := 3) (by decide +kernel) rfl (by decide +kernel) (by decide +kernel) (by decide) (by decide) ?_
  intro p e s m args below meth c q ls A S hin hr hlocks hl hK hN hP hD hA
  obtain ⟨hx, hb, hml, hown, hts⟩ := id S
  refine lv_aload_n hx hb (k := 0) (by decide +kernel) rfl (lv_at hl 0 rfl) ?_
  refine lv_bipush (n := 20) (v := 20) hx hb (by decide +kernel) (by decide) ?_
  refine mk_arr (atype := .long) (ty := .long) (N' := 20) (a0 := (20, .inr (.inl fun _ => 0))) (ct := cJ) (tf := .array .long) 2 0 9 S (fun _ h => List.mem_cons_of_mem _ h) hin hK hP hD va_S.rf hA rfl (fun _ => rfl) (unJ hK) (by decide) (by decide) (Nat.le_of_ble_eq_true rfl) (by decide +kernel) (by decide +kernel) (by decide +kernel) (fun _ => rfl) (fun _ => rfl) (by decide) (by decide +kernel) (fun q1 H1 locs hP hD hS => ?_)
  exact W.vret hx hb hr (fun t ht hW => ⟨⟨q1, rfl, trivial, by rw [ht]; exact hP, hD⟩, hS.F ht⟩) hS.2.2 (by decide +kernel)
set_option maxHeartbeats 2000000 in
theorem i_rat : Ini l yR prog_7_method_1_code 2 32 4 44 3 [.null, .null, .int 0] (ratW cJ) D cI cJ := by
  refine ini_of (iO := 3) (by decide +kernel) rfl (by decide +kernel) (by decide +kernel) (by decide) (by decide) ?_
  intro p e s m args below meth c q ls A S hin hr hlocks hl hK hN hP hD hA
  obtain ⟨hx, hb, hml, hown, hts⟩ := id S
  have hT : ∀ w ∈ gtb, w ∈ Cond.code yR prog_7_method_1_code 1 none :: gtb := fun _ h => List.mem_cons_of_mem _ h
  refine lv_aload_n hx hb (k := 0) (by decide +kernel) rfl (lv_at hl 0 rfl) ?_
  refine mk_obj (ty := .object "NumberModels$Natural") 3 2 0 9 11 12 S hT hN i_nat hl.1 hin hK hP hD va_S.rf hA (by decide) (Nat.le_of_ble_eq_true rfl) fd2 (by decide +kernel) (by decide +kernel) (by decide +kernel) (by decide +kernel) (fun _ => rfl) (fun _ => rfl) (by decide) (by decide +kernel) (fun q1 u1 H1 locs hP hD hS => ?_)
  refine lv_aload_n hx hb (k := 0) (by decide +kernel) rfl (lv_at hl 0 rfl) ?_
  refine mk_obj (ty := .object "NumberModels$Natural") 3 2 1 9 11 18 S hT hN i_nat hl.1 hin hK hP hD hS hA (by decide) (Nat.le_of_ble_eq_true rfl) fd2 (by decide +kernel) (by decide +kernel) (by decide +kernel) (by decide +kernel) (fun _ => rfl) (fun _ => rfl) (by decide) (by decide +kernel) (fun q2 u2 H2 locs hP hD hS => ?_)
  exact W.vret hx hb hr (fun t ht hW => ⟨⟨((q1, u1), (q2, u2)), rfl, trivial, by rw [ht]; exact hP, hD⟩, hS.F ht⟩) hS.2.2 (by decide +kernel)
set_option maxHeartbeats 2000000 in
theorem i_div : Ini l yD prog_3_method_1_code 2 32 6 66 1 [.null, .null, .null] (divW cJ) D cI cJ := by
  refine ini_of (iO := 3) (by decide +kernel) rfl (by decide +kernel) (by decide +kernel) (by decide) (by decide) ?_
  intro p e s m args below meth c q ls A S hin hr hlocks hl hK hN hP hD hA
  obtain ⟨hx, hb, hml, hown, hts⟩ := id S
  have hT : ∀ w ∈ gtb, w ∈ Cond.code yD prog_3_method_1_code 1 none :: gtb := fun _ h => List.mem_cons_of_mem _ h
  refine lv_aload_n hx hb (k := 0) (by decide +kernel) rfl (lv_at hl 0 rfl) ?_
  refine mk_obj (ty := .object "NumberModels$Natural") 1 2 0 9 11 12 S hT hN i_nat hl.1 hin hK hP hD va_S.rf hA (by decide) (Nat.le_of_ble_eq_true rfl) fd2 (by decide +kernel) (by decide +kernel) (by decide +kernel) (by decide +kernel) (fun _ => rfl) (fun _ => rfl) (by decide) (by decide +kernel) (fun q1 u1 H1 locs hP hD hS => ?_)
  refine lv_aload_n hx hb (k := 0) (by decide +kernel) rfl (lv_at hl 0 rfl) ?_
  refine mk_obj (ty := .object "NumberModels$Natural") 1 2 1 9 11 18 S hT hN i_nat hl.1 hin hK hP hD hS hA (by decide) (Nat.le_of_ble_eq_true rfl) fd2 (by decide +kernel) (by decide +kernel) (by decide +kernel) (by decide +kernel) (fun _ => rfl) (fun _ => rfl) (by decide) (by decide +kernel) (fun q2 u2 H2 locs hP hD hS => ?_)
  refine lv_aload_n hx hb (k := 0) (by decide +kernel) rfl (lv_at hl 0 rfl) ?_
  refine mk_obj (ty := .object "NumberModels$Natural") 1 2 2 9 11 21 S hT hN i_nat hl.1 hin hK hP hD hS hA (by decide) (Nat.le_of_ble_eq_true rfl) fd2 (by decide +kernel) (by decide +kernel) (by decide +kernel) (by decide +kernel) (fun _ => rfl) (fun _ => rfl) (by decide) (by decide +kernel) (fun q3 u3 H3 locs hP hD hS => ?_)
  exact W.vret hx hb hr (fun t ht hW => ⟨⟨((q1, u1), (q2, u2), (q3, u3)), rfl, trivial, by rw [ht]; exact hP, hD⟩, hS.F ht⟩) hS.2.2 (by decide +kernel)
set_option maxHeartbeats 2000000 in
theorem i_com : Ini l yC prog_2_method_1_code 3 52 11 113 0 [.null, .null, .null, .long 0, .long 0, .long 0, .long 0] (comW cJ) D cI cJ := by
  refine ini_of (iO := 3) (by decide +kernel) rfl (by decide +kernel) (by decide +kernel) (by decide) (by decide) ?_
  intro p e s m args below meth c q ls A S hin hr hlocks hl hK hN hP hD hA
  obtain ⟨hx, hb, hml, hown, hts⟩ := id S
  have hT : ∀ w ∈ gtb, w ∈ Cond.code yC prog_2_method_1_code 1 none :: gtb := fun _ h => List.mem_cons_of_mem _ h
  refine lv_aload_n hx hb (k := 0) (by decide +kernel) rfl (lv_at hl 0 rfl) ?_
  refine mk_obj (ty := .object "NumberModels$Natural") 0 2 0 9 11 12 S hT hN i_nat hl.1 hin hK hP hD va_S.rf hA (by decide) (Nat.le_of_ble_eq_true rfl) fd2 (by decide +kernel) (by decide +kernel) (by decide +kernel) (by decide +kernel) (fun _ => rfl) (fun _ => rfl) (by decide) (by decide +kernel) (fun q1 u1 H1 locs hP hD hS => ?_)
  refine lv_aload_n hx hb (k := 0) (by decide +kernel) rfl (lv_at hl 0 rfl) ?_
  refine mk_obj (ty := .object "NumberModels$Natural") 0 2 1 9 11 18 S hT hN i_nat hl.1 hin hK hP hD hS hA (by decide) (Nat.le_of_ble_eq_true rfl) fd2 (by decide +kernel) (by decide +kernel) (by decide +kernel) (by decide +kernel) (fun _ => rfl) (fun _ => rfl) (by decide) (by decide +kernel) (fun q2 u2 H2 locs hP hD hS => ?_)
  refine lv_aload_n hx hb (k := 0) (by decide +kernel) rfl (lv_at hl 0 rfl) ?_
  refine mk_obj (ty := .object "NumberModels$Division") 0 1 2 21 23 24 S hT hN i_div hl.1 hin hK hP hD hS hA (by decide) (Nat.le_of_ble_eq_true rfl) fd1 (by decide +kernel) (by decide +kernel) (by decide +kernel) (by decide +kernel) (fun _ => rfl) (fun _ => rfl) (by decide) (by decide +kernel) (fun q3 u3 H3 locs hP hD hS => ?_)
  exact W.vret hx hb hr (fun t ht hW => ⟨⟨((q1, u1), (q2, u2), (q3, u3)), rfl, trivial, by rw [ht]; exact hP, hD⟩, hS.F ht⟩) hS.2.2 (by decide +kernel)
set_option maxHeartbeats 2000000 in
theorem i_mod : Ini l yM prog_9_method_1_code 1 12 3 2044 5 [.int 0, .int 0, .null, .null, .null, .int 0, .int 0, .int 0, .int 0, .int 0] (modW cI cJ) D cI cJ := by
  refine ini_of (iO := 1) (by decide +kernel) rfl (by decide +kernel) (by decide +kernel) (by decide) (by decide) ?_
  intro p e s m args below meth c q ls A S hin hr hlocks hl hK hN hP hD hA
  obtain ⟨hx, hb, hml, hown, hts⟩ := id S
  have hT : ∀ w ∈ gtb, w ∈ Cond.code yM prog_9_method_1_code 1 none :: gtb := fun _ h => List.mem_cons_of_mem _ h
  refine lv_aload_n hx hb (k := 0) (by decide +kernel) rfl (lv_at hl 0 rfl) ?_
  refine lv_bipush (n := 60) (v := 60) hx hb (by decide +kernel) (by decide) ?_
  refine mk_arr (atype := .int) (ty := .int) (N' := 60) (a0 := (60, .inl fun _ => 0)) (ct := cI) (tf := .array .int) 5 2 7 S hT hin hK hP hD va_S.rf hA rfl (fun _ => rfl) (unI hK) (by decide) (by decide) (Nat.le_of_ble_eq_true rfl) (by decide +kernel) (by decide +kernel) (by decide +kernel) (fun _ => rfl) (fun _ => rfl) (by decide) (by decide +kernel) (fun q1 H1 locs hP hD hS => ?_)
  refine lv_aload_n hx hb (k := 0) (by decide +kernel) rfl (lv_at hl 0 rfl) ?_
  refine lv_sipush (n := 960) (v := 960) hx hb (by decide +kernel) (by decide) ?_
  refine mk_arr (atype := .long) (ty := .long) (N' := 960) (a0 := (960, .inr (.inl fun _ => 0))) (ct := cJ) (tf := .array .long) 5 3 13 S hT hin hK hP hD hS hA rfl (fun _ => rfl) (unJ hK) (by decide) (by decide) (Nat.le_of_ble_eq_true rfl) (by decide +kernel) (by decide +kernel) (by decide +kernel) (fun _ => rfl) (fun _ => rfl) (by decide) (by decide +kernel) (fun q2 H2 locs hP hD hS => ?_)
  refine lv_aload_n hx hb (k := 0) (by decide +kernel) rfl (lv_at hl 0 rfl) ?_
  refine lv_sipush (n := 1024) (v := 1024) hx hb (by decide +kernel) (by decide) ?_
  refine mk_arr (atype := .long) (ty := .long) (N' := 1024) (a0 := (1024, .inr (.inl fun _ => 0))) (ct := cJ) (tf := .array .long) 5 4 17 S hT hin hK hP hD hS hA rfl (fun _ => rfl) (unJ hK) (by decide) (by decide) (Nat.le_of_ble_eq_true rfl) (by decide +kernel) (by decide +kernel) (by decide +kernel) (fun _ => rfl) (fun _ => rfl) (by decide) (by decide +kernel) (fun q3 H3 locs hP hD hS => ?_)
  exact W.vret hx hb hr (fun t ht hW => ⟨⟨(q1, q2, q3), rfl, trivial, by rw [ht]; exact hP, hD⟩, hS.F ht⟩) hS.2.2 (by decide +kernel)
set_option maxHeartbeats 4000000 in
theorem i_num : Ini l yX prog_1_method_1_code 4 72 40 1394 4 [.null, .null, .int 0, .null, .null, .null, .null, .null, .null, .null] (numW cI cJ) D cI cJ := by
  refine ini_of (iO := 3) (by decide +kernel) rfl (by decide +kernel) (by decide +kernel) (by decide) (by decide) ?_
  intro p e s m args below meth c q ls A S hin hr hlocks hl hK hN hP hD hA
  obtain ⟨hx, hb, hml, hown, hts⟩ := id S
  have hT : ∀ w ∈ gtb, w ∈ Cond.code yX prog_1_method_1_code 1 none :: gtb := fun _ h => List.mem_cons_of_mem _ h
  refine lv_aload_n hx hb (k := 0) (by decide +kernel) rfl (lv_at hl 0 rfl) ?_
  refine lv_sipush (n := 960) (v := 960) hx hb (by decide +kernel) (by decide) ?_
  refine mk_arr (atype := .long) (ty := .long) (N' := 960) (a0 := (960, .inr (.inl fun _ => 0))) (ct := cJ) (tf := .array .long) 4 0 9 S hT hin hK hP hD va_S.rf hA rfl (fun _ => rfl) (unJ hK) (by decide) (by decide) (Nat.le_of_ble_eq_true rfl) (by decide +kernel) (by decide +kernel) (by decide +kernel) (fun _ => rfl) (fun _ => rfl) (by decide) (by decide +kernel) (fun q1 H1 locs hP hD hS => ?_)
  refine lv_aload_n hx hb (k := 0) (by decide +kernel) rfl (lv_at hl 0 rfl) ?_
  refine lv_bipush (n := 60) (v := 60) hx hb (by decide +kernel) (by decide) ?_
  refine mk_arr (atype := .int) (ty := .int) (N' := 60) (a0 := (60, .inl fun _ => 0)) (ct := cI) (tf := .array .int) 4 1 13 S hT hin hK hP hD hS hA rfl (fun _ => rfl) (unI hK) (by decide) (by decide) (Nat.le_of_ble_eq_true rfl) (by decide +kernel) (by decide +kernel) (by decide +kernel) (fun _ => rfl) (fun _ => rfl) (by decide) (by decide +kernel) (fun q2 H2 locs hP hD hS => ?_)
  refine lv_aload_n hx hb (k := 0) (by decide +kernel) rfl (lv_at hl 0 rfl) ?_
  refine mk_obj (ty := .object "NumberModels$Ratio") 4 3 3 17 19 20 S hT hN i_rat hl.1 hin hK hP hD hS hA (by decide) (Nat.le_of_ble_eq_true rfl) fd3 (by decide +kernel) (by decide +kernel) (by decide +kernel) (by decide +kernel) (fun _ => rfl) (fun _ => rfl) (by decide) (by decide +kernel) (fun r1 v1 H3 locs hP hD hS => ?_)
  refine lv_aload_n hx hb (k := 0) (by decide +kernel) rfl (lv_at hl 0 rfl) ?_
  refine mk_obj (ty := .object "NumberModels$Ratio") 4 3 4 17 19 24 S hT hN i_rat hl.1 hin hK hP hD hS hA (by decide) (Nat.le_of_ble_eq_true rfl) fd3 (by decide +kernel) (by decide +kernel) (by decide +kernel) (by decide +kernel) (fun _ => rfl) (fun _ => rfl) (by decide) (by decide +kernel) (fun r2 v2 H3 locs hP hD hS => ?_)
  refine lv_aload_n hx hb (k := 0) (by decide +kernel) rfl (lv_at hl 0 rfl) ?_
  refine mk_obj (ty := .object "NumberModels$Ratio") 4 3 5 17 19 27 S hT hN i_rat hl.1 hin hK hP hD hS hA (by decide) (Nat.le_of_ble_eq_true rfl) fd3 (by decide +kernel) (by decide +kernel) (by decide +kernel) (by decide +kernel) (fun _ => rfl) (fun _ => rfl) (by decide) (by decide +kernel) (fun r3 v3 H3 locs hP hD hS => ?_)
  refine lv_aload_n hx hb (k := 0) (by decide +kernel) rfl (lv_at hl 0 rfl) ?_
  refine mk_obj (ty := .object "NumberModels$Natural") 4 2 6 30 32 33 S hT hN i_nat hl.1 hin hK hP hD hS hA (by decide) (Nat.le_of_ble_eq_true rfl) fd2 (by decide +kernel) (by decide +kernel) (by decide +kernel) (by decide +kernel) (fun _ => rfl) (fun _ => rfl) (by decide) (by decide +kernel) (fun n1 t1 H3 locs hP hD hS => ?_)
  refine lv_aload_n hx hb (k := 0) (by decide +kernel) rfl (lv_at hl 0 rfl) ?_
  refine mk_obj (ty := .object "NumberModels$Natural") 4 2 7 30 32 37 S hT hN i_nat hl.1 hin hK hP hD hS hA (by decide) (Nat.le_of_ble_eq_true rfl) fd2 (by decide +kernel) (by decide +kernel) (by decide +kernel) (by decide +kernel) (fun _ => rfl) (fun _ => rfl) (by decide) (by decide +kernel) (fun n2 t2 H3 locs hP hD hS => ?_)
  refine lv_aload_n hx hb (k := 0) (by decide +kernel) rfl (lv_at hl 0 rfl) ?_
  refine mk_obj (ty := .object "NumberModels$Division") 4 1 8 40 42 43 S hT hN i_div hl.1 hin hK hP hD hS hA (by decide) (Nat.le_of_ble_eq_true rfl) fd1 (by decide +kernel) (by decide +kernel) (by decide +kernel) (by decide +kernel) (fun _ => rfl) (fun _ => rfl) (by decide) (by decide +kernel) (fun dd dv H3 locs hP hD hS => ?_)
  refine lv_aload_n hx hb (k := 0) (by decide +kernel) rfl (lv_at hl 0 rfl) ?_
  refine mk_obj (ty := .object "NumberModels$CommonDivisor") 4 0 9 47 49 50 S hT hN i_com hl.1 hin hK hP hD hS hA (by decide) (Nat.le_of_ble_eq_true rfl) fd0 (by decide +kernel) (by decide +kernel) (by decide +kernel) (by decide +kernel) (fun _ => rfl) (fun _ => rfl) (by decide) (by decide +kernel) (fun co cv H3 locs hP hD hS => ?_)
  refine lv_aload_n hx hb (k := 0) (by decide +kernel) rfl (lv_at hl 0 rfl) ?_
  refine lv_iconst (n := 0) (v := 0) hx hb (by decide +kernel) (by decide) ?_
  refine va_put (C := K4) (T := T4) (N := 10) (ci := 4) (own := yX.cls) (index := 54) (ty := .int) hx hb hts (fun w h => hT w (fld_in 4 (by decide) w h)) (fty 4) (fty_ok 4 (by decide)) (fnm_ok 4 (by decide)) hown hK hP hD hS 0 rfl rfl 2 (by decide) (hts _ (hT _ (show Cond.fieldLink yX.cls 54 (T4 2).1 (T4 2).2.1 (T4 2).2.2.1 ∈ gtb by decide +kernel))) (fun _ h => h) rfl (by decide +kernel) rfl rfl (Nat.le_of_ble_eq_true rfl) (by decide +kernel) (fun H4 locs4 hP hD hS => ?_)
  exact W.vret hx hb hr (fun t ht hW => ⟨⟨(q1, q2, (r1, v1), (r2, v2), (r3, v3), (n1, t1), (n2, t2), (dd, dv), (co, cv)), rfl, trivial, by rw [ht]; exact hP, hD⟩, hS.F ht⟩) hS.2.2 (by decide +kernel)
end
