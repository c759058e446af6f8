/-! NumberModelsModel.thrown()I -/
theorem tab_75 : tab 75 = tb75_0 := rfl
theorem ch75_0 {j : Nat} {r : Row} (h : tb75_0[j]? = some r) : rowAt 75 r.1 = some r := row_mem 75 (by decide) (by rw [tab_75]; exact List.mem_of_getElem? h)
theorem r75_0 : rowAt 75 0 = some (r0 0 1 (.aload_n 0)) := ch75_0 (j := 0) rfl
theorem r75_1 : rowAt 75 1 = some (ra 1 4 (.getfield 20) 0 5 873) := ch75_0 (j := 1) rfl
theorem r75_4 : rowAt 75 4 = some (r0 4 5 (.ireturn)) := ch75_0 (j := 2) rfl
theorem b75_0 {d : Nat} {x0 : Nat} {σ : St} (h1 : x0 < 24 ∧ kls x0 = 5) :
    Er (d + 1) 75 (0, [some (.ref x0)], [], σ) (.inl (some (.int (gfi σ x0 0))), σ, 0) := Er.sT (c2 := (1, [some (.ref x0)], [.ref x0], σ)) r75_0 rfl rfl <| Er.st (P := (x0 < 24 ∧ kls x0 = 5)) (c2 := (4, [some (.ref x0)], [.int (gfi σ x0 0)], σ)) r75_1 rfl rfl h1 <| (Er.ret r75_4 rfl ⟨_, _, rfl, rfl, rfl, rfl⟩)
/-! NumberModelsModel.whole(J)I -/
theorem tab_76 : tab 76 = tb76_0 := rfl
theorem ch76_0 {j : Nat} {r : Row} (h : tb76_0[j]? = some r) : rowAt 76 r.1 = some r := row_mem 76 (by decide) (by rw [tab_76]; exact List.mem_of_getElem? h)
theorem r76_0 : rowAt 76 0 = some (r0 0 1 (.aload_n 0)) := ch76_0 (j := 0) rfl
theorem r76_1 : rowAt 76 1 = some (r0 1 2 (.iconst 0)) := ch76_0 (j := 1) rfl
theorem r76_2 : rowAt 76 2 = some (ra 2 3 (.lload_n 1) 1 0 0) := ch76_0 (j := 2) rfl
theorem r76_3 : rowAt 76 3 = some (ra 3 6 (.invokestatic 82) 77 1 912) := ch76_0 (j := 3) rfl
theorem r76_6 : rowAt 76 6 = some (ra 6 9 (.invokevirtual 68) 78 3 915) := ch76_0 (j := 4) rfl
theorem r76_9 : rowAt 76 9 = some (r0 9 10 (.aload_n 0)) := ch76_0 (j := 5) rfl
theorem r76_10 : rowAt 76 10 = some (10, 11, .iconst 1, 0, 0, 0, 1, 0) := ch76_0 (j := 6) rfl
theorem r76_11 : rowAt 76 11 = some (11, 12, .lconst 1, 0, 0, 0, 0, 1) := ch76_0 (j := 7) rfl
theorem r76_12 : rowAt 76 12 = some (ra 12 15 (.invokevirtual 68) 78 3 915) := ch76_0 (j := 8) rfl
theorem r76_15 : rowAt 76 15 = some (r0 15 16 (.aload_n 0)) := ch76_0 (j := 9) rfl
theorem r76_16 : rowAt 76 16 = some (ra 16 17 (.lload_n 1) 1 0 0) := ch76_0 (j := 10) rfl
theorem r76_17 : rowAt 76 17 = some (r0 17 18 (.lconst 0)) := ch76_0 (j := 11) rfl
theorem r76_18 : rowAt 76 18 = some (r0 18 19 (.lcmp)) := ch76_0 (j := 12) rfl
theorem r76_19 : rowAt 76 19 = some (ra 19 22 (.ifCond .ge 7) 26 0 0) := ch76_0 (j := 13) rfl
theorem r76_22 : rowAt 76 22 = some (22, 23, .iconst (-1), 0, 0, 0, (-1), 0) := ch76_0 (j := 14) rfl
theorem r76_23 : rowAt 76 23 = some (ra 23 26 (.goto 4) 27 0 0) := ch76_0 (j := 15) rfl
theorem r76_26 : rowAt 76 26 = some (26, 27, .iconst 1, 0, 0, 0, 1, 0) := ch76_0 (j := 16) rfl
theorem r76_27 : rowAt 76 27 = some (27, 28, .iconst 1, 0, 0, 0, 1, 0) := ch76_0 (j := 17) rfl
theorem r76_28 : rowAt 76 28 = some (ra 28 31 (.invokevirtual 86) 80 3 924) := ch76_0 (j := 18) rfl
theorem r76_31 : rowAt 76 31 = some (r0 31 32 (.ireturn)) := ch76_0 (j := 19) rfl
theorem b76_0 {d : Nat} {q : Rs} {x0 : Nat} {x1 : Int64} {σ : St} {σ2 : St} {r : Int64} 
    (hy : Er d 77 (0, ent 77 [.long x1], [], σ) (.inl (some (.long r)), σ2, 0))
    (k : Er (d + 1) 76 (6, [some (.ref x0), some (.long x1), none], [.long r, .int (0 : Int32), .ref x0], σ2) q) :
    Er (d + 1) 76 (0, [some (.ref x0), some (.long x1), none], [], σ) q := Er.sT (c2 := (1, [some (.ref x0), some (.long x1), none], [.ref x0], σ)) r76_0 rfl rfl <| Er.sT (c2 := (2, [some (.ref x0), some (.long x1), none], [.int (0 : Int32), .ref x0], σ)) r76_1 rfl rfl <| Er.sT (c2 := (3, [some (.ref x0), some (.long x1), none], [.long x1, .int (0 : Int32), .ref x0], σ)) r76_2 rfl rfl <| (Er.call (vs := [.long x1]) (rest := [.int (0 : Int32), .ref x0]) r76_3 rfl rfl (Nat.le_of_ble_eq_true rfl) (Nat.le_of_ble_eq_true rfl) (fun h => absurd h (by decide +kernel)) hy k)
theorem b76_6 {d : Nat} {q : Rs} {x0 : Nat} {x1 : Int64} {s0 : Nat} {s1 : Int32} {s2 : Int64} {σ : St} {σ2 : St}  (h1 : s0 < 24 ∧ kls s0 = 5)
    (hy : Er d 78 (0, ent 78 [.ref s0, .int s1, .long s2], [], σ) (.inl none, σ2, 0))
    (k : Er (d + 1) 76 (9, [some (.ref x0), some (.long x1), none], [], σ2) q) :
    Er (d + 1) 76 (6, [some (.ref x0), some (.long x1), none], [.long s2, .int s1, .ref s0], σ) q := (Er.call (vs := [.ref s0, .int s1, .long s2]) (rest := []) r76_6 rfl rfl (Nat.le_of_ble_eq_true rfl) (Nat.le_of_ble_eq_true rfl) (fun _ => ⟨_, _, rfl, h1⟩) hy k)
theorem b76_9 {d : Nat} {q : Rs} {x0 : Nat} {x1 : Int64} {σ : St} {σ2 : St}  (h1 : x0 < 24 ∧ kls x0 = 5)
    (hy : Er d 78 (0, ent 78 [.ref x0, .int (1 : Int32), .long (1 : Int64)], [], σ) (.inl none, σ2, 0))
    (k : Er (d + 1) 76 (15, [some (.ref x0), some (.long x1), none], [], σ2) q) :
    Er (d + 1) 76 (9, [some (.ref x0), some (.long x1), none], [], σ) q := Er.sT (c2 := (10, [some (.ref x0), some (.long x1), none], [.ref x0], σ)) r76_9 rfl rfl <| Er.sT (c2 := (11, [some (.ref x0), some (.long x1), none], [.int (1 : Int32), .ref x0], σ)) r76_10 rfl rfl <| Er.sT (c2 := (12, [some (.ref x0), some (.long x1), none], [.long (1 : Int64), .int (1 : Int32), .ref x0], σ)) r76_11 rfl rfl <| (Er.call (vs := [.ref x0, .int (1 : Int32), .long (1 : Int64)]) (rest := []) r76_12 rfl rfl (Nat.le_of_ble_eq_true rfl) (Nat.le_of_ble_eq_true rfl) (fun _ => ⟨_, _, rfl, h1⟩) hy k)
theorem b76_15 {d : Nat} {q : Rs} {x0 : Nat} {x1 : Int64} {σ : St} 
    (kt : ¬ x1 < (0 : Int64) → Er (d + 1) 76 (26, [some (.ref x0), some (.long x1), none], [.ref x0], σ) q)
    (kf : x1 < (0 : Int64) → Er (d + 1) 76 (22, [some (.ref x0), some (.long x1), none], [.ref x0], σ) q) :
    Er (d + 1) 76 (15, [some (.ref x0), some (.long x1), none], [], σ) q := Er.sT (c2 := (16, [some (.ref x0), some (.long x1), none], [.ref x0], σ)) r76_15 rfl rfl <| Er.sT (c2 := (17, [some (.ref x0), some (.long x1), none], [.long x1, .ref x0], σ)) r76_16 rfl rfl <| Er.sT (c2 := (18, [some (.ref x0), some (.long x1), none], [.long (0 : Int64), .long x1, .ref x0], σ)) r76_17 rfl rfl <| Er.sT (c2 := (19, [some (.ref x0), some (.long x1), none], [.int (lg_cmp x1 (0 : Int64)), .ref x0], σ)) r76_18 rfl rfl <| Er.sT (c2 := (brn .ge (lg_cmp x1 (0 : Int64)) (0 : Int32) 26 22, [some (.ref x0), some (.long x1), none], [.ref x0], σ)) r76_19 rfl rfl <| (bl_ge kt kf)
theorem b76_22 {d : Nat} {q : Rs} {x0 : Nat} {x1 : Int64} {s0 : Nat} {σ : St} 
    (k : Er (d + 1) 76 (27, [some (.ref x0), some (.long x1), none], [.int (-1 : Int32), .ref s0], σ) q) :
    Er (d + 1) 76 (22, [some (.ref x0), some (.long x1), none], [.ref s0], σ) q := Er.sT (c2 := (23, [some (.ref x0), some (.long x1), none], [.int (-1 : Int32), .ref s0], σ)) r76_22 rfl rfl <| Er.sT (c2 := (27, [some (.ref x0), some (.long x1), none], [.int (-1 : Int32), .ref s0], σ)) r76_23 rfl rfl <| k
theorem b76_26 {d : Nat} {q : Rs} {x0 : Nat} {x1 : Int64} {s0 : Nat} {σ : St} 
    (k : Er (d + 1) 76 (27, [some (.ref x0), some (.long x1), none], [.int (1 : Int32), .ref s0], σ) q) :
    Er (d + 1) 76 (26, [some (.ref x0), some (.long x1), none], [.ref s0], σ) q := Er.sT (c2 := (27, [some (.ref x0), some (.long x1), none], [.int (1 : Int32), .ref s0], σ)) r76_26 rfl rfl <| k
theorem b76_27 {d : Nat} {q : Rs} {x0 : Nat} {x1 : Int64} {s0 : Nat} {s1 : Int32} {σ : St} {σ2 : St} {r : Int32} (h1 : s0 < 24 ∧ kls s0 = 5)
    (hy : Er d 80 (0, ent 80 [.ref s0, .int s1, .int (1 : Int32)], [], σ) (.inl (some (.int r)), σ2, 0))
    (k : Er (d + 1) 76 (31, [some (.ref x0), some (.long x1), none], [.int r], σ2) q) :
    Er (d + 1) 76 (27, [some (.ref x0), some (.long x1), none], [.int s1, .ref s0], σ) q := Er.sT (c2 := (28, [some (.ref x0), some (.long x1), none], [.int (1 : Int32), .int s1, .ref s0], σ)) r76_27 rfl rfl <| (Er.call (vs := [.ref s0, .int s1, .int (1 : Int32)]) (rest := []) r76_28 rfl rfl (Nat.le_of_ble_eq_true rfl) (Nat.le_of_ble_eq_true rfl) (fun _ => ⟨_, _, rfl, h1⟩) hy k)
theorem b76_31 {d : Nat} {x0 : Nat} {x1 : Int64} {s0 : Int32} {σ : St}  :
    Er (d + 1) 76 (31, [some (.ref x0), some (.long x1), none], [.int s0], σ) (.inl (some (.int s0)), σ, 0) := (Er.ret r76_31 rfl ⟨_, _, rfl, rfl, rfl, rfl⟩)
/-! NumberModelsModel.size(J)J -/
theorem tab_77 : tab 77 = tb77_0 := rfl
theorem ch77_0 {j : Nat} {r : Row} (h : tb77_0[j]? = some r) : rowAt 77 r.1 = some r := row_mem 77 (by decide) (by rw [tab_77]; exact List.mem_of_getElem? h)
theorem r77_0 : rowAt 77 0 = some (r0 0 1 (.lload_n 0)) := ch77_0 (j := 0) rfl
theorem r77_1 : rowAt 77 1 = some (r0 1 2 (.lconst 0)) := ch77_0 (j := 1) rfl
theorem r77_2 : rowAt 77 2 = some (r0 2 3 (.lcmp)) := ch77_0 (j := 2) rfl
theorem r77_3 : rowAt 77 3 = some (ra 3 6 (.ifCond .ge 8) 11 0 0) := ch77_0 (j := 3) rfl
theorem r77_6 : rowAt 77 6 = some (r0 6 7 (.lload_n 0)) := ch77_0 (j := 4) rfl
theorem r77_7 : rowAt 77 7 = some (r0 7 8 (.lneg)) := ch77_0 (j := 5) rfl
theorem r77_8 : rowAt 77 8 = some (ra 8 11 (.goto 4) 12 0 0) := ch77_0 (j := 6) rfl
theorem r77_11 : rowAt 77 11 = some (r0 11 12 (.lload_n 0)) := ch77_0 (j := 7) rfl
theorem r77_12 : rowAt 77 12 = some (r0 12 13 (.lreturn)) := ch77_0 (j := 8) rfl
theorem b77_0 {d : Nat} {q : Rs} {x0 : Int64} {σ : St} 
    (kt : ¬ x0 < (0 : Int64) → Er (d + 1) 77 (11, [some (.long x0), none], [], σ) q)
    (kf : x0 < (0 : Int64) → Er (d + 1) 77 (6, [some (.long x0), none], [], σ) q) :
    Er (d + 1) 77 (0, [some (.long x0), none], [], σ) q := Er.sT (c2 := (1, [some (.long x0), none], [.long x0], σ)) r77_0 rfl rfl <| Er.sT (c2 := (2, [some (.long x0), none], [.long (0 : Int64), .long x0], σ)) r77_1 rfl rfl <| Er.sT (c2 := (3, [some (.long x0), none], [.int (lg_cmp x0 (0 : Int64))], σ)) r77_2 rfl rfl <| Er.sT (c2 := (brn .ge (lg_cmp x0 (0 : Int64)) (0 : Int32) 11 6, [some (.long x0), none], [], σ)) r77_3 rfl rfl <| (bl_ge kt kf)
theorem b77_6 {d : Nat} {q : Rs} {x0 : Int64} {σ : St} 
    (k : Er (d + 1) 77 (12, [some (.long x0), none], [.long (-x0)], σ) q) :
    Er (d + 1) 77 (6, [some (.long x0), none], [], σ) q := Er.sT (c2 := (7, [some (.long x0), none], [.long x0], σ)) r77_6 rfl rfl <| Er.sT (c2 := (8, [some (.long x0), none], [.long (-x0)], σ)) r77_7 rfl rfl <| Er.sT (c2 := (12, [some (.long x0), none], [.long (-x0)], σ)) r77_8 rfl rfl <| k
theorem b77_11 {d : Nat} {q : Rs} {x0 : Int64} {σ : St} 
    (k : Er (d + 1) 77 (12, [some (.long x0), none], [.long x0], σ) q) :
    Er (d + 1) 77 (11, [some (.long x0), none], [], σ) q := Er.sT (c2 := (12, [some (.long x0), none], [.long x0], σ)) r77_11 rfl rfl <| k
theorem b77_12 {d : Nat} {x0 : Int64} {s0 : Int64} {σ : St}  :
    Er (d + 1) 77 (12, [some (.long x0), none], [.long s0], σ) (.inl (some (.long s0)), σ, 0) := (Er.ret r77_12 rfl ⟨_, rfl, rfl, rfl⟩)
/-! NumberModelsModel.set(IJ)V -/
theorem tab_78 : tab 78 = tb78_0 := rfl
theorem ch78_0 {j : Nat} {r : Row} (h : tb78_0[j]? = some r) : rowAt 78 r.1 = some r := row_mem 78 (by decide) (by rw [tab_78]; exact List.mem_of_getElem? h)
theorem r78_0 : rowAt 78 0 = some (r0 0 1 (.aload_n 0)) := ch78_0 (j := 0) rfl
theorem r78_1 : rowAt 78 1 = some (ra 1 2 (.iload_n 1) 1 0 0) := ch78_0 (j := 1) rfl
theorem r78_2 : rowAt 78 2 = some (ra 2 5 (.invokevirtual 24) 79 2 919) := ch78_0 (j := 2) rfl
theorem r78_5 : rowAt 78 5 = some (r0 5 6 (.aload_n 0)) := ch78_0 (j := 3) rfl
theorem r78_6 : rowAt 78 6 = some (ra 6 9 (.getfield 17) 4 5 877) := ch78_0 (j := 4) rfl
theorem r78_9 : rowAt 78 9 = some (9, 11, .bipush 64, 0, 0, 0, 64, 0) := ch78_0 (j := 5) rfl
theorem r78_11 : rowAt 78 11 = some (ra 11 12 (.iload_n 1) 1 0 0) := ch78_0 (j := 6) rfl
theorem r78_12 : rowAt 78 12 = some (r0 12 13 (.imul)) := ch78_0 (j := 7) rfl
theorem r78_13 : rowAt 78 13 = some (ra 13 14 (.lload_n 2) 2 0 0) := ch78_0 (j := 8) rfl
theorem r78_14 : rowAt 78 14 = some (14, 17, .ldc2_w 28, 0, 0, 923, 0, 4294967295) := ch78_0 (j := 9) rfl
theorem r78_17 : rowAt 78 17 = some (r0 17 18 (.land)) := ch78_0 (j := 10) rfl
theorem r78_18 : rowAt 78 18 = some (r0 18 19 (.lastore)) := ch78_0 (j := 11) rfl
theorem r78_19 : rowAt 78 19 = some (r0 19 20 (.aload_n 0)) := ch78_0 (j := 12) rfl
theorem r78_20 : rowAt 78 20 = some (ra 20 23 (.getfield 17) 4 5 877) := ch78_0 (j := 13) rfl
theorem r78_23 : rowAt 78 23 = some (23, 25, .bipush 64, 0, 0, 0, 64, 0) := ch78_0 (j := 14) rfl
theorem r78_25 : rowAt 78 25 = some (ra 25 26 (.iload_n 1) 1 0 0) := ch78_0 (j := 15) rfl
theorem r78_26 : rowAt 78 26 = some (r0 26 27 (.imul)) := ch78_0 (j := 16) rfl
theorem r78_27 : rowAt 78 27 = some (27, 28, .iconst 1, 0, 0, 0, 1, 0) := ch78_0 (j := 17) rfl
theorem r78_28 : rowAt 78 28 = some (r0 28 29 (.iadd)) := ch78_0 (j := 18) rfl
theorem r78_29 : rowAt 78 29 = some (ra 29 30 (.lload_n 2) 2 0 0) := ch78_0 (j := 19) rfl
theorem r78_30 : rowAt 78 30 = some (30, 32, .bipush 32, 0, 0, 0, 32, 0) := ch78_0 (j := 20) rfl
theorem r78_32 : rowAt 78 32 = some (r0 32 33 (.lushr)) := ch78_0 (j := 21) rfl
theorem r78_33 : rowAt 78 33 = some (r0 33 34 (.lastore)) := ch78_0 (j := 22) rfl
theorem r78_34 : rowAt 78 34 = some (r0 34 35 (.return_)) := ch78_0 (j := 23) rfl
theorem b78_0 {d : Nat} {q : Rs} {x0 : Nat} {x1 : Int32} {x2 : Int64} {σ : St} {σ2 : St}  (h1 : x0 < 24 ∧ kls x0 = 5)
    (hy : Er d 79 (0, ent 79 [.ref x0, .int x1], [], σ) (.inl none, σ2, 0))
    (k : Er (d + 1) 78 (5, [some (.ref x0), some (.int x1), some (.long x2), none], [], σ2) q) :
    Er (d + 1) 78 (0, [some (.ref x0), some (.int x1), some (.long x2), none], [], σ) q := Er.sT (c2 := (1, [some (.ref x0), some (.int x1), some (.long x2), none], [.ref x0], σ)) r78_0 rfl rfl <| Er.sT (c2 := (2, [some (.ref x0), some (.int x1), some (.long x2), none], [.int x1, .ref x0], σ)) r78_1 rfl rfl <| (Er.call (vs := [.ref x0, .int x1]) (rest := []) r78_2 rfl rfl (Nat.le_of_ble_eq_true rfl) (Nat.le_of_ble_eq_true rfl) (fun _ => ⟨_, _, rfl, h1⟩) hy k)
theorem b78_5 {d : Nat} {x0 : Nat} {x1 : Int32} {x2 : Int64} {σ : St} (h1 : x0 < 24 ∧ kls x0 = 5) (h2 : isL (fr x0 4) ∧ vp_in ((64 : Int32) * x1) (ale (fr x0 4))) (h3 : isL (fr x0 4) ∧ vp_in (((64 : Int32) * x1) + (1 : Int32)) (ale (fr x0 4))) :
    Er (d + 1) 78 (5, [some (.ref x0), some (.int x1), some (.long x2), none], [], σ) (.inl none, (sal (sal σ (fr x0 4) ((64 : Int32) * x1).toNatClampNeg (x2 &&& (4294967295 : Int64))) (fr x0 4) (((64 : Int32) * x1) + (1 : Int32)).toNatClampNeg ((x2.toUInt64 >>> ((32 : Int32).toInt64.toUInt64 &&& Int64.toUInt64 63)).toInt64)), 0) := Er.sT (c2 := (6, [some (.ref x0), some (.int x1), some (.long x2), none], [.ref x0], σ)) r78_5 rfl rfl <| Er.st (P := (x0 < 24 ∧ kls x0 = 5)) (c2 := (9, [some (.ref x0), some (.int x1), some (.long x2), none], [.ref (fr x0 4)], σ)) r78_6 rfl rfl h1 <| Er.sT (c2 := (11, [some (.ref x0), some (.int x1), some (.long x2), none], [.int (64 : Int32), .ref (fr x0 4)], σ)) r78_9 rfl rfl <| Er.sT (c2 := (12, [some (.ref x0), some (.int x1), some (.long x2), none], [.int x1, .int (64 : Int32), .ref (fr x0 4)], σ)) r78_11 rfl rfl <| Er.sT (c2 := (13, [some (.ref x0), some (.int x1), some (.long x2), none], [.int ((64 : Int32) * x1), .ref (fr x0 4)], σ)) r78_12 rfl rfl <| Er.sT (c2 := (14, [some (.ref x0), some (.int x1), some (.long x2), none], [.long x2, .int ((64 : Int32) * x1), .ref (fr x0 4)], σ)) r78_13 rfl rfl <| Er.sT (c2 := (17, [some (.ref x0), some (.int x1), some (.long x2), none], [.long (4294967295 : Int64), .long x2, .int ((64 : Int32) * x1), .ref (fr x0 4)], σ)) r78_14 rfl rfl <| Er.sT (c2 := (18, [some (.ref x0), some (.int x1), some (.long x2), none], [.long (x2 &&& (4294967295 : Int64)), .int ((64 : Int32) * x1), .ref (fr x0 4)], σ)) r78_17 rfl rfl <| Er.st (P := (isL (fr x0 4) ∧ vp_in ((64 : Int32) * x1) (ale (fr x0 4)))) (c2 := (19, [some (.ref x0), some (.int x1), some (.long x2), none], [], (sal σ (fr x0 4) ((64 : Int32) * x1).toNatClampNeg (x2 &&& (4294967295 : Int64))))) r78_18 rfl rfl h2 <| Er.sT (c2 := (20, [some (.ref x0), some (.int x1), some (.long x2), none], [.ref x0], (sal σ (fr x0 4) ((64 : Int32) * x1).toNatClampNeg (x2 &&& (4294967295 : Int64))))) r78_19 rfl rfl <| Er.st (P := (x0 < 24 ∧ kls x0 = 5)) (c2 := (23, [some (.ref x0), some (.int x1), some (.long x2), none], [.ref (fr x0 4)], (sal σ (fr x0 4) ((64 : Int32) * x1).toNatClampNeg (x2 &&& (4294967295 : Int64))))) r78_20 rfl rfl h1 <| Er.sT (c2 := (25, [some (.ref x0), some (.int x1), some (.long x2), none], [.int (64 : Int32), .ref (fr x0 4)], (sal σ (fr x0 4) ((64 : Int32) * x1).toNatClampNeg (x2 &&& (4294967295 : Int64))))) r78_23 rfl rfl <| Er.sT (c2 := (26, [some (.ref x0), some (.int x1), some (.long x2), none], [.int x1, .int (64 : Int32), .ref (fr x0 4)], (sal σ (fr x0 4) ((64 : Int32) * x1).toNatClampNeg (x2 &&& (4294967295 : Int64))))) r78_25 rfl rfl <| Er.sT (c2 := (27, [some (.ref x0), some (.int x1), some (.long x2), none], [.int ((64 : Int32) * x1), .ref (fr x0 4)], (sal σ (fr x0 4) ((64 : Int32) * x1).toNatClampNeg (x2 &&& (4294967295 : Int64))))) r78_26 rfl rfl <| Er.sT (c2 := (28, [some (.ref x0), some (.int x1), some (.long x2), none], [.int (1 : Int32), .int ((64 : Int32) * x1), .ref (fr x0 4)], (sal σ (fr x0 4) ((64 : Int32) * x1).toNatClampNeg (x2 &&& (4294967295 : Int64))))) r78_27 rfl rfl <| Er.sT (c2 := (29, [some (.ref x0), some (.int x1), some (.long x2), none], [.int (((64 : Int32) * x1) + (1 : Int32)), .ref (fr x0 4)], (sal σ (fr x0 4) ((64 : Int32) * x1).toNatClampNeg (x2 &&& (4294967295 : Int64))))) r78_28 rfl rfl <| Er.sT (c2 := (30, [some (.ref x0), some (.int x1), some (.long x2), none], [.long x2, .int (((64 : Int32) * x1) + (1 : Int32)), .ref (fr x0 4)], (sal σ (fr x0 4) ((64 : Int32) * x1).toNatClampNeg (x2 &&& (4294967295 : Int64))))) r78_29 rfl rfl <| Er.sT (c2 := (32, [some (.ref x0), some (.int x1), some (.long x2), none], [.int (32 : Int32), .long x2, .int (((64 : Int32) * x1) + (1 : Int32)), .ref (fr x0 4)], (sal σ (fr x0 4) ((64 : Int32) * x1).toNatClampNeg (x2 &&& (4294967295 : Int64))))) r78_30 rfl rfl <| Er.sT (c2 := (33, [some (.ref x0), some (.int x1), some (.long x2), none], [.long ((x2.toUInt64 >>> ((32 : Int32).toInt64.toUInt64 &&& Int64.toUInt64 63)).toInt64), .int (((64 : Int32) * x1) + (1 : Int32)), .ref (fr x0 4)], (sal σ (fr x0 4) ((64 : Int32) * x1).toNatClampNeg (x2 &&& (4294967295 : Int64))))) r78_32 rfl rfl <| Er.st (P := (isL (fr x0 4) ∧ vp_in (((64 : Int32) * x1) + (1 : Int32)) (ale (fr x0 4)))) (c2 := (34, [some (.ref x0), some (.int x1), some (.long x2), none], [], (sal (sal σ (fr x0 4) ((64 : Int32) * x1).toNatClampNeg (x2 &&& (4294967295 : Int64))) (fr x0 4) (((64 : Int32) * x1) + (1 : Int32)).toNatClampNeg ((x2.toUInt64 >>> ((32 : Int32).toInt64.toUInt64 &&& Int64.toUInt64 63)).toInt64)))) r78_33 rfl rfl h3 <| (Er.ret r78_34 rfl ⟨rfl, rfl, rfl⟩)
/-! NumberModelsModel.zero(I)V -/
theorem tab_79 : tab 79 = tb79_0 := rfl
theorem ch79_0 {j : Nat} {r : Row} (h : tb79_0[j]? = some r) : rowAt 79 r.1 = some r := row_mem 79 (by decide) (by rw [tab_79]; exact List.mem_of_getElem? h)
theorem r79_0 : rowAt 79 0 = some (r0 0 1 (.iconst 0)) := ch79_0 (j := 0) rfl
theorem r79_1 : rowAt 79 1 = some (ra 1 2 (.istore_n 2) 2 0 0) := ch79_0 (j := 1) rfl
theorem r79_2 : rowAt 79 2 = some (ra 2 3 (.iload_n 2) 2 0 0) := ch79_0 (j := 2) rfl
theorem r79_3 : rowAt 79 3 = some (3, 5, .bipush 64, 0, 0, 0, 64, 0) := ch79_0 (j := 3) rfl
theorem r79_5 : rowAt 79 5 = some (ra 5 8 (.if_icmp .ge 21) 26 0 0) := ch79_0 (j := 4) rfl
theorem r79_8 : rowAt 79 8 = some (r0 8 9 (.aload_n 0)) := ch79_0 (j := 5) rfl
theorem r79_9 : rowAt 79 9 = some (ra 9 12 (.getfield 17) 4 5 877) := ch79_0 (j := 6) rfl
theorem r79_12 : rowAt 79 12 = some (12, 14, .bipush 64, 0, 0, 0, 64, 0) := ch79_0 (j := 7) rfl
theorem r79_14 : rowAt 79 14 = some (ra 14 15 (.iload_n 1) 1 0 0) := ch79_0 (j := 8) rfl
theorem r79_15 : rowAt 79 15 = some (r0 15 16 (.imul)) := ch79_0 (j := 9) rfl
theorem r79_16 : rowAt 79 16 = some (ra 16 17 (.iload_n 2) 2 0 0) := ch79_0 (j := 10) rfl
theorem r79_17 : rowAt 79 17 = some (r0 17 18 (.iadd)) := ch79_0 (j := 11) rfl
theorem r79_18 : rowAt 79 18 = some (r0 18 19 (.lconst 0)) := ch79_0 (j := 12) rfl
theorem r79_19 : rowAt 79 19 = some (r0 19 20 (.lastore)) := ch79_0 (j := 13) rfl
theorem r79_20 : rowAt 79 20 = some (20, 23, .iinc 2 1, 2, 0, 0, 1, 0) := ch79_0 (j := 14) rfl
theorem r79_23 : rowAt 79 23 = some (ra 23 26 (.goto (-21)) 2 0 0) := ch79_0 (j := 15) rfl
theorem r79_26 : rowAt 79 26 = some (r0 26 27 (.return_)) := ch79_0 (j := 16) rfl
theorem b79_0 {d : Nat} {q : Rs} {x0 : Nat} {x1 : Int32} {σ : St} 
    (k : Er (d + 1) 79 (2, [some (.ref x0), some (.int x1), some (.int (0 : Int32))], [], σ) q) :
    Er (d + 1) 79 (0, [some (.ref x0), some (.int x1), none], [], σ) q := Er.sT (c2 := (1, [some (.ref x0), some (.int x1), none], [.int (0 : Int32)], σ)) r79_0 rfl rfl <| Er.sT (c2 := (2, [some (.ref x0), some (.int x1), some (.int (0 : Int32))], [], σ)) r79_1 rfl rfl <| k
theorem b79_2 {d : Nat} {q : Rs} {x0 : Nat} {x1 : Int32} {x2 : Int32} {σ : St} 
    (kt : (64 : Int32) ≤ x2 → Er (d + 1) 79 (26, [some (.ref x0), some (.int x1), some (.int x2)], [], σ) q)
    (kf : ¬ (64 : Int32) ≤ x2 → Er (d + 1) 79 (8, [some (.ref x0), some (.int x1), some (.int x2)], [], σ) q) :
    Er (d + 1) 79 (2, [some (.ref x0), some (.int x1), some (.int x2)], [], σ) q := Er.sT (c2 := (3, [some (.ref x0), some (.int x1), some (.int x2)], [.int x2], σ)) r79_2 rfl rfl <| Er.sT (c2 := (5, [some (.ref x0), some (.int x1), some (.int x2)], [.int (64 : Int32), .int x2], σ)) r79_3 rfl rfl <| Er.sT (c2 := (brn .ge x2 (64 : Int32) 26 8, [some (.ref x0), some (.int x1), some (.int x2)], [], σ)) r79_5 rfl rfl <| (br_ge kt kf)
theorem b79_8 {d : Nat} {q : Rs} {x0 : Nat} {x1 : Int32} {x2 : Int32} {σ : St} (h1 : x0 < 24 ∧ kls x0 = 5) (h2 : isL (fr x0 4) ∧ vp_in (((64 : Int32) * x1) + x2) (ale (fr x0 4)))
    (k : Er (d + 1) 79 (2, [some (.ref x0), some (.int x1), some (.int (x2 + (1 : Int32)))], [], (sal σ (fr x0 4) (((64 : Int32) * x1) + x2).toNatClampNeg (0 : Int64))) q) :
    Er (d + 1) 79 (8, [some (.ref x0), some (.int x1), some (.int x2)], [], σ) q := Er.sT (c2 := (9, [some (.ref x0), some (.int x1), some (.int x2)], [.ref x0], σ)) r79_8 rfl rfl <| Er.st (P := (x0 < 24 ∧ kls x0 = 5)) (c2 := (12, [some (.ref x0), some (.int x1), some (.int x2)], [.ref (fr x0 4)], σ)) r79_9 rfl rfl h1 <| Er.sT (c2 := (14, [some (.ref x0), some (.int x1), some (.int x2)], [.int (64 : Int32), .ref (fr x0 4)], σ)) r79_12 rfl rfl <| Er.sT (c2 := (15, [some (.ref x0), some (.int x1), some (.int x2)], [.int x1, .int (64 : Int32), .ref (fr x0 4)], σ)) r79_14 rfl rfl <| Er.sT (c2 := (16, [some (.ref x0), some (.int x1), some (.int x2)], [.int ((64 : Int32) * x1), .ref (fr x0 4)], σ)) r79_15 rfl rfl <| Er.sT (c2 := (17, [some (.ref x0), some (.int x1), some (.int x2)], [.int x2, .int ((64 : Int32) * x1), .ref (fr x0 4)], σ)) r79_16 rfl rfl <| Er.sT (c2 := (18, [some (.ref x0), some (.int x1), some (.int x2)], [.int (((64 : Int32) * x1) + x2), .ref (fr x0 4)], σ)) r79_17 rfl rfl <| Er.sT (c2 := (19, [some (.ref x0), some (.int x1), some (.int x2)], [.long (0 : Int64), .int (((64 : Int32) * x1) + x2), .ref (fr x0 4)], σ)) r79_18 rfl rfl <| Er.st (P := (isL (fr x0 4) ∧ vp_in (((64 : Int32) * x1) + x2) (ale (fr x0 4)))) (c2 := (20, [some (.ref x0), some (.int x1), some (.int x2)], [], (sal σ (fr x0 4) (((64 : Int32) * x1) + x2).toNatClampNeg (0 : Int64)))) r79_19 rfl rfl h2 <| Er.sT (c2 := (23, [some (.ref x0), some (.int x1), some (.int (x2 + (1 : Int32)))], [], (sal σ (fr x0 4) (((64 : Int32) * x1) + x2).toNatClampNeg (0 : Int64)))) r79_20 rfl rfl <| Er.sT (c2 := (2, [some (.ref x0), some (.int x1), some (.int (x2 + (1 : Int32)))], [], (sal σ (fr x0 4) (((64 : Int32) * x1) + x2).toNatClampNeg (0 : Int64)))) r79_23 rfl rfl <| k
theorem b79_26 {d : Nat} {x0 : Nat} {x1 : Int32} {x2 : Int32} {σ : St}  :
    Er (d + 1) 79 (26, [some (.ref x0), some (.int x1), some (.int x2)], [], σ) (.inl none, σ, 0) := (Er.ret r79_26 rfl ⟨rfl, rfl, rfl⟩)
/-! NumberModelsModel.make(II)I -/
theorem tab_80 : tab 80 = tb80_0 ++ tb80_1 := rfl
theorem ch80_0 {j : Nat} {r : Row} (h : tb80_0[j]? = some r) : rowAt 80 r.1 = some r := row_mem 80 (by decide) (by rw [tab_80]; exact (List.mem_append_left _ (List.mem_of_getElem? h)))
theorem ch80_1 {j : Nat} {r : Row} (h : tb80_1[j]? = some r) : rowAt 80 r.1 = some r := row_mem 80 (by decide) (by rw [tab_80]; exact (List.mem_append_right _ (List.mem_of_getElem? h)))
theorem r80_0 : rowAt 80 0 = some (r0 0 1 (.aload_n 0)) := ch80_0 (j := 0) rfl
theorem r80_1 : rowAt 80 1 = some (r0 1 2 (.iconst 0)) := ch80_0 (j := 1) rfl
theorem r80_2 : rowAt 80 2 = some (ra 2 5 (.invokevirtual 52) 81 2 928) := ch80_0 (j := 2) rfl
theorem r80_5 : rowAt 80 5 = some (ra 5 8 (.ifCond .eq 9) 14 0 0) := ch80_0 (j := 3) rfl
theorem r80_8 : rowAt 80 8 = some (r0 8 9 (.aload_n 0)) := ch80_0 (j := 4) rfl
theorem r80_9 : rowAt 80 9 = some (9, 10, .iconst 1, 0, 0, 0, 1, 0) := ch80_0 (j := 5) rfl
theorem r80_10 : rowAt 80 10 = some (10, 11, .lconst 1, 0, 0, 0, 0, 1) := ch80_0 (j := 6) rfl
theorem r80_11 : rowAt 80 11 = some (ra 11 14 (.invokevirtual 68) 78 3 915) := ch80_0 (j := 7) rfl
theorem r80_14 : rowAt 80 14 = some (r0 14 15 (.aload_n 0)) := ch80_0 (j := 8) rfl
theorem r80_15 : rowAt 80 15 = some (r0 15 16 (.iconst 0)) := ch80_0 (j := 9) rfl
theorem r80_16 : rowAt 80 16 = some (16, 17, .iconst 1, 0, 0, 0, 1, 0) := ch80_0 (j := 10) rfl
theorem r80_17 : rowAt 80 17 = some (ra 17 20 (.invokevirtual 72) 82 3 932) := ch80_0 (j := 11) rfl
theorem r80_20 : rowAt 80 20 = some (r0 20 21 (.aload_n 0)) := ch80_0 (j := 12) rfl
theorem r80_21 : rowAt 80 21 = some (21, 23, .bipush 14, 0, 0, 0, 14, 0) := ch80_0 (j := 13) rfl
theorem r80_23 : rowAt 80 23 = some (23, 25, .bipush 13, 0, 0, 0, 13, 0) := ch80_0 (j := 14) rfl
theorem r80_25 : rowAt 80 25 = some (ra 25 28 (.invokevirtual 49) 83 3 936) := ch80_0 (j := 15) rfl
theorem r80_28 : rowAt 80 28 = some (r0 28 29 (.aload_n 0)) := ch80_0 (j := 16) rfl
theorem r80_29 : rowAt 80 29 = some (r0 29 30 (.iconst 0)) := ch80_0 (j := 17) rfl
theorem r80_30 : rowAt 80 30 = some (30, 32, .bipush 13, 0, 0, 0, 13, 0) := ch80_0 (j := 18) rfl
theorem r80_32 : rowAt 80 32 = some (32, 34, .bipush 12, 0, 0, 0, 12, 0) := ch80_0 (j := 19) rfl
theorem r80_34 : rowAt 80 34 = some (34, 36, .bipush 11, 0, 0, 0, 11, 0) := ch80_0 (j := 20) rfl
theorem r80_36 : rowAt 80 36 = some (ra 36 39 (.invokevirtual 75) 90 5 964) := ch80_0 (j := 21) rfl
theorem r80_39 : rowAt 80 39 = some (r0 39 40 (.aload_n 0)) := ch80_0 (j := 22) rfl
theorem r80_40 : rowAt 80 40 = some (40, 42, .bipush 12, 0, 0, 0, 12, 0) := ch80_0 (j := 23) rfl
theorem r80_42 : rowAt 80 42 = some (r0 42 43 (.iconst 0)) := ch80_0 (j := 24) rfl
theorem r80_43 : rowAt 80 43 = some (ra 43 46 (.invokevirtual 49) 83 3 936) := ch80_0 (j := 25) rfl
theorem r80_46 : rowAt 80 46 = some (r0 46 47 (.aload_n 0)) := ch80_0 (j := 26) rfl
theorem r80_47 : rowAt 80 47 = some (47, 48, .iconst 1, 0, 0, 0, 1, 0) := ch80_0 (j := 27) rfl
theorem r80_48 : rowAt 80 48 = some (48, 50, .bipush 13, 0, 0, 0, 13, 0) := ch80_0 (j := 28) rfl
theorem r80_50 : rowAt 80 50 = some (50, 52, .bipush 12, 0, 0, 0, 12, 0) := ch80_0 (j := 29) rfl
theorem r80_52 : rowAt 80 52 = some (52, 54, .bipush 11, 0, 0, 0, 11, 0) := ch80_0 (j := 30) rfl
theorem r80_54 : rowAt 80 54 = some (ra 54 57 (.invokevirtual 75) 90 5 964) := ch80_0 (j := 31) rfl
theorem r80_57 : rowAt 80 57 = some (r0 57 58 (.aload_n 0)) := ch80_0 (j := 32) rfl
theorem r80_58 : rowAt 80 58 = some (58, 60, .bipush 12, 0, 0, 0, 12, 0) := ch80_0 (j := 33) rfl
theorem r80_60 : rowAt 80 60 = some (60, 61, .iconst 1, 0, 0, 0, 1, 0) := ch80_0 (j := 34) rfl
theorem r80_61 : rowAt 80 61 = some (ra 61 64 (.invokevirtual 49) 83 3 936) := ch80_0 (j := 35) rfl
theorem r80_64 : rowAt 80 64 = some (r0 64 65 (.aload_n 0)) := ch80_0 (j := 36) rfl
theorem r80_65 : rowAt 80 65 = some (ra 65 68 (.getfield 65) 1 5 874) := ch80_0 (j := 37) rfl
theorem r80_68 : rowAt 80 68 = some (68, 70, .bipush 60, 0, 0, 0, 60, 0) := ch80_0 (j := 38) rfl
theorem r80_70 : rowAt 80 70 = some (ra 70 73 (.if_icmp .eq 25) 95 0 0) := ch80_0 (j := 39) rfl
theorem r80_73 : rowAt 80 73 = some (r0 73 74 (.aload_n 0)) := ch80_0 (j := 40) rfl
theorem r80_74 : rowAt 80 74 = some (r0 74 75 (.iconst 0)) := ch80_0 (j := 41) rfl
theorem r80_75 : rowAt 80 75 = some (ra 75 78 (.invokevirtual 30) 91 2 968) := ch80_0 (j := 42) rfl
theorem r80_78 : rowAt 80 78 = some (78, 81, .sipush 256, 0, 0, 0, 256, 0) := ch80_0 (j := 43) rfl
theorem r80_81 : rowAt 80 81 = some (ra 81 84 (.if_icmp .gt 14) 95 0 0) := ch80_0 (j := 44) rfl
theorem r80_84 : rowAt 80 84 = some (r0 84 85 (.aload_n 0)) := ch80_0 (j := 45) rfl
theorem r80_85 : rowAt 80 85 = some (85, 86, .iconst 1, 0, 0, 0, 1, 0) := ch80_0 (j := 46) rfl
theorem r80_86 : rowAt 80 86 = some (ra 86 89 (.invokevirtual 30) 91 2 968) := ch80_0 (j := 47) rfl
theorem r80_89 : rowAt 80 89 = some (89, 92, .sipush 256, 0, 0, 0, 256, 0) := ch80_0 (j := 48) rfl
theorem r80_92 : rowAt 80 92 = some (ra 92 95 (.if_icmp .le 9) 101 0 0) := ch80_0 (j := 49) rfl
theorem r80_95 : rowAt 80 95 = some (r0 95 96 (.aload_n 0)) := ch80_0 (j := 50) rfl
theorem r80_96 : rowAt 80 96 = some (ra 96 97 (.iload_n 2) 2 0 0) := ch80_0 (j := 51) rfl
theorem r80_97 : rowAt 80 97 = some (ra 97 100 (.invokevirtual 79) 93 2 976) := ch80_0 (j := 52) rfl
theorem r80_100 : rowAt 80 100 = some (r0 100 101 (.ireturn)) := ch80_0 (j := 53) rfl
theorem r80_101 : rowAt 80 101 = some (r0 101 102 (.aload_n 0)) := ch80_0 (j := 54) rfl
theorem r80_102 : rowAt 80 102 = some (r0 102 103 (.iconst 0)) := ch80_0 (j := 55) rfl
theorem r80_103 : rowAt 80 103 = some (ra 103 106 (.putfield 20) 0 5 873) := ch80_0 (j := 56) rfl
theorem r80_106 : rowAt 80 106 = some (r0 106 107 (.aload_n 0)) := ch80_0 (j := 57) rfl
theorem r80_107 : rowAt 80 107 = some (ra 107 110 (.getfield 7) 2 5 875) := ch80_0 (j := 58) rfl
theorem r80_110 : rowAt 80 110 = some (r0 110 111 (.aload_n 0)) := ch80_0 (j := 59) rfl
theorem r80_111 : rowAt 80 111 = some (ra 111 114 (.getfield 65) 1 5 874) := ch80_1 (j := 0) rfl
theorem r80_114 : rowAt 80 114 = some (r0 114 115 (.aload_n 0)) := ch80_1 (j := 1) rfl
theorem r80_115 : rowAt 80 115 = some (r0 115 116 (.iconst 0)) := ch80_1 (j := 2) rfl
theorem r80_116 : rowAt 80 116 = some (ra 116 119 (.invokevirtual 52) 81 2 928) := ch80_1 (j := 3) rfl
theorem r80_119 : rowAt 80 119 = some (ra 119 122 (.ifCond .eq 7) 126 0 0) := ch80_1 (j := 4) rfl
theorem r80_122 : rowAt 80 122 = some (r0 122 123 (.iconst 0)) := ch80_1 (j := 5) rfl
theorem r80_123 : rowAt 80 123 = some (ra 123 126 (.goto 4) 127 0 0) := ch80_1 (j := 6) rfl
theorem r80_126 : rowAt 80 126 = some (ra 126 127 (.iload_n 1) 1 0 0) := ch80_1 (j := 7) rfl
theorem r80_127 : rowAt 80 127 = some (r0 127 128 (.iastore)) := ch80_1 (j := 8) rfl
theorem r80_128 : rowAt 80 128 = some (r0 128 129 (.iconst 0)) := ch80_1 (j := 9) rfl
theorem r80_129 : rowAt 80 129 = some (ra 129 130 (.istore_n 3) 3 0 0) := ch80_1 (j := 10) rfl
theorem r80_130 : rowAt 80 130 = some (ra 130 131 (.iload_n 3) 3 0 0) := ch80_1 (j := 11) rfl
theorem r80_131 : rowAt 80 131 = some (131, 133, .bipush 8, 0, 0, 0, 8, 0) := ch80_1 (j := 12) rfl
theorem r80_133 : rowAt 80 133 = some (ra 133 136 (.if_icmp .ge 55) 188 0 0) := ch80_1 (j := 13) rfl
theorem r80_136 : rowAt 80 136 = some (r0 136 137 (.aload_n 0)) := ch80_1 (j := 14) rfl
theorem r80_137 : rowAt 80 137 = some (ra 137 140 (.getfield 13) 3 5 876) := ch80_1 (j := 15) rfl
theorem r80_140 : rowAt 80 140 = some (140, 142, .bipush 16, 0, 0, 0, 16, 0) := ch80_1 (j := 16) rfl
theorem r80_142 : rowAt 80 142 = some (r0 142 143 (.aload_n 0)) := ch80_1 (j := 17) rfl
theorem r80_143 : rowAt 80 143 = some (ra 143 146 (.getfield 65) 1 5 874) := ch80_1 (j := 18) rfl
theorem r80_146 : rowAt 80 146 = some (r0 146 147 (.imul)) := ch80_1 (j := 19) rfl
theorem r80_147 : rowAt 80 147 = some (ra 147 148 (.iload_n 3) 3 0 0) := ch80_1 (j := 20) rfl
theorem r80_148 : rowAt 80 148 = some (r0 148 149 (.iadd)) := ch80_1 (j := 21) rfl
theorem r80_149 : rowAt 80 149 = some (r0 149 150 (.aload_n 0)) := ch80_1 (j := 22) rfl
theorem r80_150 : rowAt 80 150 = some (ra 150 153 (.getfield 17) 4 5 877) := ch80_1 (j := 23) rfl
theorem r80_153 : rowAt 80 153 = some (ra 153 154 (.iload_n 3) 3 0 0) := ch80_1 (j := 24) rfl
theorem r80_154 : rowAt 80 154 = some (r0 154 155 (.laload)) := ch80_1 (j := 25) rfl
theorem r80_155 : rowAt 80 155 = some (r0 155 156 (.lastore)) := ch80_1 (j := 26) rfl
theorem r80_156 : rowAt 80 156 = some (r0 156 157 (.aload_n 0)) := ch80_1 (j := 27) rfl
theorem r80_157 : rowAt 80 157 = some (ra 157 160 (.getfield 13) 3 5 876) := ch80_1 (j := 28) rfl
theorem r80_160 : rowAt 80 160 = some (160, 162, .bipush 16, 0, 0, 0, 16, 0) := ch80_1 (j := 29) rfl
theorem r80_162 : rowAt 80 162 = some (r0 162 163 (.aload_n 0)) := ch80_1 (j := 30) rfl
theorem r80_163 : rowAt 80 163 = some (ra 163 166 (.getfield 65) 1 5 874) := ch80_1 (j := 31) rfl
theorem r80_166 : rowAt 80 166 = some (r0 166 167 (.imul)) := ch80_1 (j := 32) rfl
theorem r80_167 : rowAt 80 167 = some (167, 169, .bipush 8, 0, 0, 0, 8, 0) := ch80_1 (j := 33) rfl
theorem r80_169 : rowAt 80 169 = some (r0 169 170 (.iadd)) := ch80_1 (j := 34) rfl
theorem r80_170 : rowAt 80 170 = some (ra 170 171 (.iload_n 3) 3 0 0) := ch80_1 (j := 35) rfl
theorem r80_171 : rowAt 80 171 = some (r0 171 172 (.iadd)) := ch80_1 (j := 36) rfl
theorem r80_172 : rowAt 80 172 = some (r0 172 173 (.aload_n 0)) := ch80_1 (j := 37) rfl
theorem r80_173 : rowAt 80 173 = some (ra 173 176 (.getfield 17) 4 5 877) := ch80_1 (j := 38) rfl
theorem r80_176 : rowAt 80 176 = some (176, 178, .bipush 64, 0, 0, 0, 64, 0) := ch80_1 (j := 39) rfl
theorem r80_178 : rowAt 80 178 = some (ra 178 179 (.iload_n 3) 3 0 0) := ch80_1 (j := 40) rfl
theorem r80_179 : rowAt 80 179 = some (r0 179 180 (.iadd)) := ch80_1 (j := 41) rfl
theorem r80_180 : rowAt 80 180 = some (r0 180 181 (.laload)) := ch80_1 (j := 42) rfl
theorem r80_181 : rowAt 80 181 = some (r0 181 182 (.lastore)) := ch80_1 (j := 43) rfl
theorem r80_182 : rowAt 80 182 = some (182, 185, .iinc 3 1, 3, 0, 0, 1, 0) := ch80_1 (j := 44) rfl
theorem r80_185 : rowAt 80 185 = some (ra 185 188 (.goto (-55)) 130 0 0) := ch80_1 (j := 45) rfl
theorem r80_188 : rowAt 80 188 = some (r0 188 189 (.aload_n 0)) := ch80_1 (j := 46) rfl
theorem r80_189 : rowAt 80 189 = some (r0 189 190 (.dup)) := ch80_1 (j := 47) rfl
theorem r80_190 : rowAt 80 190 = some (ra 190 193 (.getfield 65) 1 5 874) := ch80_1 (j := 48) rfl
theorem r80_193 : rowAt 80 193 = some (193, 194, .iconst 1, 0, 0, 0, 1, 0) := ch80_1 (j := 49) rfl
theorem r80_194 : rowAt 80 194 = some (r0 194 195 (.iadd)) := ch80_1 (j := 50) rfl
theorem r80_195 : rowAt 80 195 = some (ra 195 198 (.putfield 65) 1 5 874) := ch80_1 (j := 51) rfl
theorem r80_198 : rowAt 80 198 = some (r0 198 199 (.aload_n 0)) := ch80_1 (j := 52) rfl
theorem r80_199 : rowAt 80 199 = some (ra 199 202 (.getfield 65) 1 5 874) := ch80_1 (j := 53) rfl
theorem r80_202 : rowAt 80 202 = some (202, 203, .iconst 1, 0, 0, 0, 1, 0) := ch80_1 (j := 54) rfl
theorem r80_203 : rowAt 80 203 = some (r0 203 204 (.isub)) := ch80_1 (j := 55) rfl
theorem r80_204 : rowAt 80 204 = some (r0 204 205 (.ireturn)) := ch80_1 (j := 56) rfl
theorem b80_0 {d : Nat} {q : Rs} {x0 : Nat} {x1 : Int32} {x2 : Int32} {σ : St} {σ2 : St} {r : Int32} (h1 : x0 < 24 ∧ kls x0 = 5)
    (hy : Er d 81 (0, ent 81 [.ref x0, .int (0 : Int32)], [], σ) (.inl (some (.int r)), σ2, 0))
    (k : Er (d + 1) 80 (5, [some (.ref x0), some (.int x1), some (.int x2), none], [.int r], σ2) q) :
    Er (d + 1) 80 (0, [some (.ref x0), some (.int x1), some (.int x2), none], [], σ) q := Er.sT (c2 := (1, [some (.ref x0), some (.int x1), some (.int x2), none], [.ref x0], σ)) r80_0 rfl rfl <| Er.sT (c2 := (2, [some (.ref x0), some (.int x1), some (.int x2), none], [.int (0 : Int32), .ref x0], σ)) r80_1 rfl rfl <| (Er.call (vs := [.ref x0, .int (0 : Int32)]) (rest := []) r80_2 rfl rfl (Nat.le_of_ble_eq_true rfl) (Nat.le_of_ble_eq_true rfl) (fun _ => ⟨_, _, rfl, h1⟩) hy k)
theorem b80_5 {d : Nat} {q : Rs} {x0 : Nat} {x1 : Int32} {x2 : Int32} {s0 : Int32} {σ : St} 
    (kt : s0 = (0 : Int32) → Er (d + 1) 80 (14, [some (.ref x0), some (.int x1), some (.int x2), none], [], σ) q)
    (kf : ¬ s0 = (0 : Int32) → Er (d + 1) 80 (8, [some (.ref x0), some (.int x1), some (.int x2), none], [], σ) q) :
    Er (d + 1) 80 (5, [some (.ref x0), some (.int x1), some (.int x2), none], [.int s0], σ) q := Er.sT (c2 := (brn .eq s0 (0 : Int32) 14 8, [some (.ref x0), some (.int x1), some (.int x2), none], [], σ)) r80_5 rfl rfl <| (br_eq kt kf)
theorem b80_8 {d : Nat} {q : Rs} {x0 : Nat} {x1 : Int32} {x2 : Int32} {σ : St} {σ2 : St}  (h1 : x0 < 24 ∧ kls x0 = 5)
    (hy : Er d 78 (0, ent 78 [.ref x0, .int (1 : Int32), .long (1 : Int64)], [], σ) (.inl none, σ2, 0))
    (k : Er (d + 1) 80 (14, [some (.ref x0), some (.int x1), some (.int x2), none], [], σ2) q) :
    Er (d + 1) 80 (8, [some (.ref x0), some (.int x1), some (.int x2), none], [], σ) q := Er.sT (c2 := (9, [some (.ref x0), some (.int x1), some (.int x2), none], [.ref x0], σ)) r80_8 rfl rfl <| Er.sT (c2 := (10, [some (.ref x0), some (.int x1), some (.int x2), none], [.int (1 : Int32), .ref x0], σ)) r80_9 rfl rfl <| Er.sT (c2 := (11, [some (.ref x0), some (.int x1), some (.int x2), none], [.long (1 : Int64), .int (1 : Int32), .ref x0], σ)) r80_10 rfl rfl <| (Er.call (vs := [.ref x0, .int (1 : Int32), .long (1 : Int64)]) (rest := []) r80_11 rfl rfl (Nat.le_of_ble_eq_true rfl) (Nat.le_of_ble_eq_true rfl) (fun _ => ⟨_, _, rfl, h1⟩) hy k)
theorem b80_14 {d : Nat} {q : Rs} {x0 : Nat} {x1 : Int32} {x2 : Int32} {σ : St} {σ2 : St}  (h1 : x0 < 24 ∧ kls x0 = 5)
    (hy : Er d 82 (0, ent 82 [.ref x0, .int (0 : Int32), .int (1 : Int32)], [], σ) (.inl none, σ2, 0))
    (k : Er (d + 1) 80 (20, [some (.ref x0), some (.int x1), some (.int x2), none], [], σ2) q) :
    Er (d + 1) 80 (14, [some (.ref x0), some (.int x1), some (.int x2), none], [], σ) q := Er.sT (c2 := (15, [some (.ref x0), some (.int x1), some (.int x2), none], [.ref x0], σ)) r80_14 rfl rfl <| Er.sT (c2 := (16, [some (.ref x0), some (.int x1), some (.int x2), none], [.int (0 : Int32), .ref x0], σ)) r80_15 rfl rfl <| Er.sT (c2 := (17, [some (.ref x0), some (.int x1), some (.int x2), none], [.int (1 : Int32), .int (0 : Int32), .ref x0], σ)) r80_16 rfl rfl <| (Er.call (vs := [.ref x0, .int (0 : Int32), .int (1 : Int32)]) (rest := []) r80_17 rfl rfl (Nat.le_of_ble_eq_true rfl) (Nat.le_of_ble_eq_true rfl) (fun _ => ⟨_, _, rfl, h1⟩) hy k)
theorem b80_20 {d : Nat} {q : Rs} {x0 : Nat} {x1 : Int32} {x2 : Int32} {σ : St} {σ2 : St}  (h1 : x0 < 24 ∧ kls x0 = 5)
    (hy : Er d 83 (0, ent 83 [.ref x0, .int (14 : Int32), .int (13 : Int32)], [], σ) (.inl none, σ2, 0))
    (k : Er (d + 1) 80 (28, [some (.ref x0), some (.int x1), some (.int x2), none], [], σ2) q) :
    Er (d + 1) 80 (20, [some (.ref x0), some (.int x1), some (.int x2), none], [], σ) q := Er.sT (c2 := (21, [some (.ref x0), some (.int x1), some (.int x2), none], [.ref x0], σ)) r80_20 rfl rfl <| Er.sT (c2 := (23, [some (.ref x0), some (.int x1), some (.int x2), none], [.int (14 : Int32), .ref x0], σ)) r80_21 rfl rfl <| Er.sT (c2 := (25, [some (.ref x0), some (.int x1), some (.int x2), none], [.int (13 : Int32), .int (14 : Int32), .ref x0], σ)) r80_23 rfl rfl <| (Er.call (vs := [.ref x0, .int (14 : Int32), .int (13 : Int32)]) (rest := []) r80_25 rfl rfl (Nat.le_of_ble_eq_true rfl) (Nat.le_of_ble_eq_true rfl) (fun _ => ⟨_, _, rfl, h1⟩) hy k)
theorem b80_28 {d : Nat} {q : Rs} {x0 : Nat} {x1 : Int32} {x2 : Int32} {σ : St} {σ2 : St}  (h1 : x0 < 24 ∧ kls x0 = 5)
    (hy : Er d 90 (0, ent 90 [.ref x0, .int (0 : Int32), .int (13 : Int32), .int (12 : Int32), .int (11 : Int32)], [], σ) (.inl none, σ2, 0))
    (k : Er (d + 1) 80 (39, [some (.ref x0), some (.int x1), some (.int x2), none], [], σ2) q) :
    Er (d + 1) 80 (28, [some (.ref x0), some (.int x1), some (.int x2), none], [], σ) q := Er.sT (c2 := (29, [some (.ref x0), some (.int x1), some (.int x2), none], [.ref x0], σ)) r80_28 rfl rfl <| Er.sT (c2 := (30, [some (.ref x0), some (.int x1), some (.int x2), none], [.int (0 : Int32), .ref x0], σ)) r80_29 rfl rfl <| Er.sT (c2 := (32, [some (.ref x0), some (.int x1), some (.int x2), none], [.int (13 : Int32), .int (0 : Int32), .ref x0], σ)) r80_30 rfl rfl <| Er.sT (c2 := (34, [some (.ref x0), some (.int x1), some (.int x2), none], [.int (12 : Int32), .int (13 : Int32), .int (0 : Int32), .ref x0], σ)) r80_32 rfl rfl <| Er.sT (c2 := (36, [some (.ref x0), some (.int x1), some (.int x2), none], [.int (11 : Int32), .int (12 : Int32), .int (13 : Int32), .int (0 : Int32), .ref x0], σ)) r80_34 rfl rfl <| (Er.call (vs := [.ref x0, .int (0 : Int32), .int (13 : Int32), .int (12 : Int32), .int (11 : Int32)]) (rest := []) r80_36 rfl rfl (Nat.le_of_ble_eq_true rfl) (Nat.le_of_ble_eq_true rfl) (fun _ => ⟨_, _, rfl, h1⟩) hy k)
theorem b80_39 {d : Nat} {q : Rs} {x0 : Nat} {x1 : Int32} {x2 : Int32} {σ : St} {σ2 : St}  (h1 : x0 < 24 ∧ kls x0 = 5)
    (hy : Er d 83 (0, ent 83 [.ref x0, .int (12 : Int32), .int (0 : Int32)], [], σ) (.inl none, σ2, 0))
    (k : Er (d + 1) 80 (46, [some (.ref x0), some (.int x1), some (.int x2), none], [], σ2) q) :
    Er (d + 1) 80 (39, [some (.ref x0), some (.int x1), some (.int x2), none], [], σ) q := Er.sT (c2 := (40, [some (.ref x0), some (.int x1), some (.int x2), none], [.ref x0], σ)) r80_39 rfl rfl <| Er.sT (c2 := (42, [some (.ref x0), some (.int x1), some (.int x2), none], [.int (12 : Int32), .ref x0], σ)) r80_40 rfl rfl <| Er.sT (c2 := (43, [some (.ref x0), some (.int x1), some (.int x2), none], [.int (0 : Int32), .int (12 : Int32), .ref x0], σ)) r80_42 rfl rfl <| (Er.call (vs := [.ref x0, .int (12 : Int32), .int (0 : Int32)]) (rest := []) r80_43 rfl rfl (Nat.le_of_ble_eq_true rfl) (Nat.le_of_ble_eq_true rfl) (fun _ => ⟨_, _, rfl, h1⟩) hy k)
theorem b80_46 {d : Nat} {q : Rs} {x0 : Nat} {x1 : Int32} {x2 : Int32} {σ : St} {σ2 : St}  (h1 : x0 < 24 ∧ kls x0 = 5)
    (hy : Er d 90 (0, ent 90 [.ref x0, .int (1 : Int32), .int (13 : Int32), .int (12 : Int32), .int (11 : Int32)], [], σ) (.inl none, σ2, 0))
    (k : Er (d + 1) 80 (57, [some (.ref x0), some (.int x1), some (.int x2), none], [], σ2) q) :
    Er (d + 1) 80 (46, [some (.ref x0), some (.int x1), some (.int x2), none], [], σ) q := Er.sT (c2 := (47, [some (.ref x0), some (.int x1), some (.int x2), none], [.ref x0], σ)) r80_46 rfl rfl <| Er.sT (c2 := (48, [some (.ref x0), some (.int x1), some (.int x2), none], [.int (1 : Int32), .ref x0], σ)) r80_47 rfl rfl <| Er.sT (c2 := (50, [some (.ref x0), some (.int x1), some (.int x2), none], [.int (13 : Int32), .int (1 : Int32), .ref x0], σ)) r80_48 rfl rfl <| Er.sT (c2 := (52, [some (.ref x0), some (.int x1), some (.int x2), none], [.int (12 : Int32), .int (13 : Int32), .int (1 : Int32), .ref x0], σ)) r80_50 rfl rfl <| Er.sT (c2 := (54, [some (.ref x0), some (.int x1), some (.int x2), none], [.int (11 : Int32), .int (12 : Int32), .int (13 : Int32), .int (1 : Int32), .ref x0], σ)) r80_52 rfl rfl <| (Er.call (vs := [.ref x0, .int (1 : Int32), .int (13 : Int32), .int (12 : Int32), .int (11 : Int32)]) (rest := []) r80_54 rfl rfl (Nat.le_of_ble_eq_true rfl) (Nat.le_of_ble_eq_true rfl) (fun _ => ⟨_, _, rfl, h1⟩) hy k)
theorem b80_57 {d : Nat} {q : Rs} {x0 : Nat} {x1 : Int32} {x2 : Int32} {σ : St} {σ2 : St}  (h1 : x0 < 24 ∧ kls x0 = 5)
    (hy : Er d 83 (0, ent 83 [.ref x0, .int (12 : Int32), .int (1 : Int32)], [], σ) (.inl none, σ2, 0))
    (k : Er (d + 1) 80 (64, [some (.ref x0), some (.int x1), some (.int x2), none], [], σ2) q) :
    Er (d + 1) 80 (57, [some (.ref x0), some (.int x1), some (.int x2), none], [], σ) q := Er.sT (c2 := (58, [some (.ref x0), some (.int x1), some (.int x2), none], [.ref x0], σ)) r80_57 rfl rfl <| Er.sT (c2 := (60, [some (.ref x0), some (.int x1), some (.int x2), none], [.int (12 : Int32), .ref x0], σ)) r80_58 rfl rfl <| Er.sT (c2 := (61, [some (.ref x0), some (.int x1), some (.int x2), none], [.int (1 : Int32), .int (12 : Int32), .ref x0], σ)) r80_60 rfl rfl <| (Er.call (vs := [.ref x0, .int (12 : Int32), .int (1 : Int32)]) (rest := []) r80_61 rfl rfl (Nat.le_of_ble_eq_true rfl) (Nat.le_of_ble_eq_true rfl) (fun _ => ⟨_, _, rfl, h1⟩) hy k)
theorem b80_64 {d : Nat} {q : Rs} {x0 : Nat} {x1 : Int32} {x2 : Int32} {σ : St} (h1 : x0 < 24 ∧ kls x0 = 5)
    (kt : (gfi σ x0 1) = (60 : Int32) → Er (d + 1) 80 (95, [some (.ref x0), some (.int x1), some (.int x2), none], [], σ) q)
    (kf : ¬ (gfi σ x0 1) = (60 : Int32) → Er (d + 1) 80 (73, [some (.ref x0), some (.int x1), some (.int x2), none], [], σ) q) :
    Er (d + 1) 80 (64, [some (.ref x0), some (.int x1), some (.int x2), none], [], σ) q := Er.sT (c2 := (65, [some (.ref x0), some (.int x1), some (.int x2), none], [.ref x0], σ)) r80_64 rfl rfl <| Er.st (P := (x0 < 24 ∧ kls x0 = 5)) (c2 := (68, [some (.ref x0), some (.int x1), some (.int x2), none], [.int (gfi σ x0 1)], σ)) r80_65 rfl rfl h1 <| Er.sT (c2 := (70, [some (.ref x0), some (.int x1), some (.int x2), none], [.int (60 : Int32), .int (gfi σ x0 1)], σ)) r80_68 rfl rfl <| Er.sT (c2 := (brn .eq (gfi σ x0 1) (60 : Int32) 95 73, [some (.ref x0), some (.int x1), some (.int x2), none], [], σ)) r80_70 rfl rfl <| (br_eq kt kf)
theorem b80_73 {d : Nat} {q : Rs} {x0 : Nat} {x1 : Int32} {x2 : Int32} {σ : St} {σ2 : St} {r : Int32} (h1 : x0 < 24 ∧ kls x0 = 5)
    (hy : Er d 91 (0, ent 91 [.ref x0, .int (0 : Int32)], [], σ) (.inl (some (.int r)), σ2, 0))
    (k : Er (d + 1) 80 (78, [some (.ref x0), some (.int x1), some (.int x2), none], [.int r], σ2) q) :
    Er (d + 1) 80 (73, [some (.ref x0), some (.int x1), some (.int x2), none], [], σ) q := Er.sT (c2 := (74, [some (.ref x0), some (.int x1), some (.int x2), none], [.ref x0], σ)) r80_73 rfl rfl <| Er.sT (c2 := (75, [some (.ref x0), some (.int x1), some (.int x2), none], [.int (0 : Int32), .ref x0], σ)) r80_74 rfl rfl <| (Er.call (vs := [.ref x0, .int (0 : Int32)]) (rest := []) r80_75 rfl rfl (Nat.le_of_ble_eq_true rfl) (Nat.le_of_ble_eq_true rfl) (fun _ => ⟨_, _, rfl, h1⟩) hy k)
theorem b80_78 {d : Nat} {q : Rs} {x0 : Nat} {x1 : Int32} {x2 : Int32} {s0 : Int32} {σ : St} 
    (kt : (256 : Int32) < s0 → Er (d + 1) 80 (95, [some (.ref x0), some (.int x1), some (.int x2), none], [], σ) q)
    (kf : ¬ (256 : Int32) < s0 → Er (d + 1) 80 (84, [some (.ref x0), some (.int x1), some (.int x2), none], [], σ) q) :
    Er (d + 1) 80 (78, [some (.ref x0), some (.int x1), some (.int x2), none], [.int s0], σ) q := Er.sT (c2 := (81, [some (.ref x0), some (.int x1), some (.int x2), none], [.int (256 : Int32), .int s0], σ)) r80_78 rfl rfl <| Er.sT (c2 := (brn .gt s0 (256 : Int32) 95 84, [some (.ref x0), some (.int x1), some (.int x2), none], [], σ)) r80_81 rfl rfl <| (br_gt kt kf)
theorem b80_84 {d : Nat} {q : Rs} {x0 : Nat} {x1 : Int32} {x2 : Int32} {σ : St} {σ2 : St} {r : Int32} (h1 : x0 < 24 ∧ kls x0 = 5)
    (hy : Er d 91 (0, ent 91 [.ref x0, .int (1 : Int32)], [], σ) (.inl (some (.int r)), σ2, 0))
    (k : Er (d + 1) 80 (89, [some (.ref x0), some (.int x1), some (.int x2), none], [.int r], σ2) q) :
    Er (d + 1) 80 (84, [some (.ref x0), some (.int x1), some (.int x2), none], [], σ) q := Er.sT (c2 := (85, [some (.ref x0), some (.int x1), some (.int x2), none], [.ref x0], σ)) r80_84 rfl rfl <| Er.sT (c2 := (86, [some (.ref x0), some (.int x1), some (.int x2), none], [.int (1 : Int32), .ref x0], σ)) r80_85 rfl rfl <| (Er.call (vs := [.ref x0, .int (1 : Int32)]) (rest := []) r80_86 rfl rfl (Nat.le_of_ble_eq_true rfl) (Nat.le_of_ble_eq_true rfl) (fun _ => ⟨_, _, rfl, h1⟩) hy k)
theorem b80_89 {d : Nat} {q : Rs} {x0 : Nat} {x1 : Int32} {x2 : Int32} {s0 : Int32} {σ : St} 
    (kt : s0 ≤ (256 : Int32) → Er (d + 1) 80 (101, [some (.ref x0), some (.int x1), some (.int x2), none], [], σ) q)
    (kf : ¬ s0 ≤ (256 : Int32) → Er (d + 1) 80 (95, [some (.ref x0), some (.int x1), some (.int x2), none], [], σ) q) :
    Er (d + 1) 80 (89, [some (.ref x0), some (.int x1), some (.int x2), none], [.int s0], σ) q := Er.sT (c2 := (92, [some (.ref x0), some (.int x1), some (.int x2), none], [.int (256 : Int32), .int s0], σ)) r80_89 rfl rfl <| Er.sT (c2 := (brn .le s0 (256 : Int32) 101 95, [some (.ref x0), some (.int x1), some (.int x2), none], [], σ)) r80_92 rfl rfl <| (br_le kt kf)
theorem b80_95 {d : Nat} {q : Rs} {x0 : Nat} {x1 : Int32} {x2 : Int32} {σ : St} {σ2 : St} {r : Int32} (h1 : x0 < 24 ∧ kls x0 = 5)
    (hy : Er d 93 (0, ent 93 [.ref x0, .int x2], [], σ) (.inl (some (.int r)), σ2, 0))
    (k : Er (d + 1) 80 (100, [some (.ref x0), some (.int x1), some (.int x2), none], [.int r], σ2) q) :
    Er (d + 1) 80 (95, [some (.ref x0), some (.int x1), some (.int x2), none], [], σ) q := Er.sT (c2 := (96, [some (.ref x0), some (.int x1), some (.int x2), none], [.ref x0], σ)) r80_95 rfl rfl <| Er.sT (c2 := (97, [some (.ref x0), some (.int x1), some (.int x2), none], [.int x2, .ref x0], σ)) r80_96 rfl rfl <| (Er.call (vs := [.ref x0, .int x2]) (rest := []) r80_97 rfl rfl (Nat.le_of_ble_eq_true rfl) (Nat.le_of_ble_eq_true rfl) (fun _ => ⟨_, _, rfl, h1⟩) hy k)
theorem b80_100 {d : Nat} {x0 : Nat} {x1 : Int32} {x2 : Int32} {s0 : Int32} {σ : St}  :
    Er (d + 1) 80 (100, [some (.ref x0), some (.int x1), some (.int x2), none], [.int s0], σ) (.inl (some (.int s0)), σ, 0) := (Er.ret r80_100 rfl ⟨_, _, rfl, rfl, rfl, rfl⟩)
theorem b80_101 {d : Nat} {q : Rs} {x0 : Nat} {x1 : Int32} {x2 : Int32} {σ : St} {σ2 : St} {r : Int32} (h1 : x0 < 24 ∧ kls x0 = 5 ∧ ft 5 0 = 0) (h2 : x0 < 24 ∧ kls x0 = 5)
    (hy : Er d 81 (0, ent 81 [.ref x0, .int (0 : Int32)], [], (sfi σ x0 0 (0 : Int32))) (.inl (some (.int r)), σ2, 0))
    (k : Er (d + 1) 80 (119, [some (.ref x0), some (.int x1), some (.int x2), none], [.int r, .int (gfi (sfi σ x0 0 (0 : Int32)) x0 1), .ref (fr x0 2)], σ2) q) :
    Er (d + 1) 80 (101, [some (.ref x0), some (.int x1), some (.int x2), none], [], σ) q := Er.sT (c2 := (102, [some (.ref x0), some (.int x1), some (.int x2), none], [.ref x0], σ)) r80_101 rfl rfl <| Er.sT (c2 := (103, [some (.ref x0), some (.int x1), some (.int x2), none], [.int (0 : Int32), .ref x0], σ)) r80_102 rfl rfl <| Er.st (P := (x0 < 24 ∧ kls x0 = 5 ∧ ft 5 0 = 0)) (c2 := (106, [some (.ref x0), some (.int x1), some (.int x2), none], [], (sfi σ x0 0 (0 : Int32)))) r80_103 rfl rfl h1 <| Er.sT (c2 := (107, [some (.ref x0), some (.int x1), some (.int x2), none], [.ref x0], (sfi σ x0 0 (0 : Int32)))) r80_106 rfl rfl <| Er.st (P := (x0 < 24 ∧ kls x0 = 5)) (c2 := (110, [some (.ref x0), some (.int x1), some (.int x2), none], [.ref (fr x0 2)], (sfi σ x0 0 (0 : Int32)))) r80_107 rfl rfl h2 <| Er.sT (c2 := (111, [some (.ref x0), some (.int x1), some (.int x2), none], [.ref x0, .ref (fr x0 2)], (sfi σ x0 0 (0 : Int32)))) r80_110 rfl rfl <| Er.st (P := (x0 < 24 ∧ kls x0 = 5)) (c2 := (114, [some (.ref x0), some (.int x1), some (.int x2), none], [.int (gfi (sfi σ x0 0 (0 : Int32)) x0 1), .ref (fr x0 2)], (sfi σ x0 0 (0 : Int32)))) r80_111 rfl rfl h2 <| Er.sT (c2 := (115, [some (.ref x0), some (.int x1), some (.int x2), none], [.ref x0, .int (gfi (sfi σ x0 0 (0 : Int32)) x0 1), .ref (fr x0 2)], (sfi σ x0 0 (0 : Int32)))) r80_114 rfl rfl <| Er.sT (c2 := (116, [some (.ref x0), some (.int x1), some (.int x2), none], [.int (0 : Int32), .ref x0, .int (gfi (sfi σ x0 0 (0 : Int32)) x0 1), .ref (fr x0 2)], (sfi σ x0 0 (0 : Int32)))) r80_115 rfl rfl <| (Er.call (vs := [.ref x0, .int (0 : Int32)]) (rest := [.int (gfi (sfi σ x0 0 (0 : Int32)) x0 1), .ref (fr x0 2)]) r80_116 rfl rfl (Nat.le_of_ble_eq_true rfl) (Nat.le_of_ble_eq_true rfl) (fun _ => ⟨_, _, rfl, h2⟩) hy k)
theorem b80_119 {d : Nat} {q : Rs} {x0 : Nat} {x1 : Int32} {x2 : Int32} {s0 : Nat} {s1 : Int32} {s2 : Int32} {σ : St} 
    (kt : s2 = (0 : Int32) → Er (d + 1) 80 (126, [some (.ref x0), some (.int x1), some (.int x2), none], [.int s1, .ref s0], σ) q)
    (kf : ¬ s2 = (0 : Int32) → Er (d + 1) 80 (122, [some (.ref x0), some (.int x1), some (.int x2), none], [.int s1, .ref s0], σ) q) :
    Er (d + 1) 80 (119, [some (.ref x0), some (.int x1), some (.int x2), none], [.int s2, .int s1, .ref s0], σ) q := Er.sT (c2 := (brn .eq s2 (0 : Int32) 126 122, [some (.ref x0), some (.int x1), some (.int x2), none], [.int s1, .ref s0], σ)) r80_119 rfl rfl <| (br_eq kt kf)
theorem b80_122 {d : Nat} {q : Rs} {x0 : Nat} {x1 : Int32} {x2 : Int32} {s0 : Nat} {s1 : Int32} {σ : St} 
    (k : Er (d + 1) 80 (127, [some (.ref x0), some (.int x1), some (.int x2), none], [.int (0 : Int32), .int s1, .ref s0], σ) q) :
    Er (d + 1) 80 (122, [some (.ref x0), some (.int x1), some (.int x2), none], [.int s1, .ref s0], σ) q := Er.sT (c2 := (123, [some (.ref x0), some (.int x1), some (.int x2), none], [.int (0 : Int32), .int s1, .ref s0], σ)) r80_122 rfl rfl <| Er.sT (c2 := (127, [some (.ref x0), some (.int x1), some (.int x2), none], [.int (0 : Int32), .int s1, .ref s0], σ)) r80_123 rfl rfl <| k
theorem b80_126 {d : Nat} {q : Rs} {x0 : Nat} {x1 : Int32} {x2 : Int32} {s0 : Nat} {s1 : Int32} {σ : St} 
    (k : Er (d + 1) 80 (127, [some (.ref x0), some (.int x1), some (.int x2), none], [.int x1, .int s1, .ref s0], σ) q) :
    Er (d + 1) 80 (126, [some (.ref x0), some (.int x1), some (.int x2), none], [.int s1, .ref s0], σ) q := Er.sT (c2 := (127, [some (.ref x0), some (.int x1), some (.int x2), none], [.int x1, .int s1, .ref s0], σ)) r80_126 rfl rfl <| k
theorem b80_127 {d : Nat} {q : Rs} {x0 : Nat} {x1 : Int32} {x2 : Int32} {s0 : Nat} {s1 : Int32} {s2 : Int32} {σ : St} (h1 : (s0 = 41 ∨ s0 = 42) ∧ vp_in s1 (ale s0))
    (k : Er (d + 1) 80 (130, [some (.ref x0), some (.int x1), some (.int x2), some (.int (0 : Int32))], [], (sai σ s0 s1.toNatClampNeg s2)) q) :
    Er (d + 1) 80 (127, [some (.ref x0), some (.int x1), some (.int x2), none], [.int s2, .int s1, .ref s0], σ) q := Er.st (P := ((s0 = 41 ∨ s0 = 42) ∧ vp_in s1 (ale s0))) (c2 := (128, [some (.ref x0), some (.int x1), some (.int x2), none], [], (sai σ s0 s1.toNatClampNeg s2))) r80_127 rfl rfl h1 <| Er.sT (c2 := (129, [some (.ref x0), some (.int x1), some (.int x2), none], [.int (0 : Int32)], (sai σ s0 s1.toNatClampNeg s2))) r80_128 rfl rfl <| Er.sT (c2 := (130, [some (.ref x0), some (.int x1), some (.int x2), some (.int (0 : Int32))], [], (sai σ s0 s1.toNatClampNeg s2))) r80_129 rfl rfl <| k
theorem b80_130 {d : Nat} {q : Rs} {x0 : Nat} {x1 : Int32} {x2 : Int32} {x3 : Int32} {σ : St} 
    (kt : (8 : Int32) ≤ x3 → Er (d + 1) 80 (188, [some (.ref x0), some (.int x1), some (.int x2), some (.int x3)], [], σ) q)
    (kf : ¬ (8 : Int32) ≤ x3 → Er (d + 1) 80 (136, [some (.ref x0), some (.int x1), some (.int x2), some (.int x3)], [], σ) q) :
    Er (d + 1) 80 (130, [some (.ref x0), some (.int x1), some (.int x2), some (.int x3)], [], σ) q := Er.sT (c2 := (131, [some (.ref x0), some (.int x1), some (.int x2), some (.int x3)], [.int x3], σ)) r80_130 rfl rfl <| Er.sT (c2 := (133, [some (.ref x0), some (.int x1), some (.int x2), some (.int x3)], [.int (8 : Int32), .int x3], σ)) r80_131 rfl rfl <| Er.sT (c2 := (brn .ge x3 (8 : Int32) 188 136, [some (.ref x0), some (.int x1), some (.int x2), some (.int x3)], [], σ)) r80_133 rfl rfl <| (br_ge kt kf)
theorem b80_136 {d : Nat} {q : Rs} {x0 : Nat} {x1 : Int32} {x2 : Int32} {x3 : Int32} {σ : St} (h1 : x0 < 24 ∧ kls x0 = 5) (h2 : isL (fr x0 4) ∧ vp_in x3 (ale (fr x0 4))) (h3 : isL (fr x0 3) ∧ vp_in (((16 : Int32) * (gfi σ x0 1)) + x3) (ale (fr x0 3))) (h4 : isL (fr x0 4) ∧ vp_in ((64 : Int32) + x3) (ale (fr x0 4))) (h5 : isL (fr x0 3) ∧ vp_in ((((16 : Int32) * (gfi (sal σ (fr x0 3) (((16 : Int32) * (gfi σ x0 1)) + x3).toNatClampNeg (gal σ (fr x0 4) x3.toNatClampNeg)) x0 1)) + (8 : Int32)) + x3) (ale (fr x0 3)))
    (k : Er (d + 1) 80 (130, [some (.ref x0), some (.int x1), some (.int x2), some (.int (x3 + (1 : Int32)))], [], (sal (sal σ (fr x0 3) (((16 : Int32) * (gfi σ x0 1)) + x3).toNatClampNeg (gal σ (fr x0 4) x3.toNatClampNeg)) (fr x0 3) ((((16 : Int32) * (gfi (sal σ (fr x0 3) (((16 : Int32) * (gfi σ x0 1)) + x3).toNatClampNeg (gal σ (fr x0 4) x3.toNatClampNeg)) x0 1)) + (8 : Int32)) + x3).toNatClampNeg (gal (sal σ (fr x0 3) (((16 : Int32) * (gfi σ x0 1)) + x3).toNatClampNeg (gal σ (fr x0 4) x3.toNatClampNeg)) (fr x0 4) ((64 : Int32) + x3).toNatClampNeg))) q) :
    Er (d + 1) 80 (136, [some (.ref x0), some (.int x1), some (.int x2), some (.int x3)], [], σ) q := Er.sT (c2 := (137, [some (.ref x0), some (.int x1), some (.int x2), some (.int x3)], [.ref x0], σ)) r80_136 rfl rfl <| Er.st (P := (x0 < 24 ∧ kls x0 = 5)) (c2 := (140, [some (.ref x0), some (.int x1), some (.int x2), some (.int x3)], [.ref (fr x0 3)], σ)) r80_137 rfl rfl h1 <| Er.sT (c2 := (142, [some (.ref x0), some (.int x1), some (.int x2), some (.int x3)], [.int (16 : Int32), .ref (fr x0 3)], σ)) r80_140 rfl rfl <| Er.sT (c2 := (143, [some (.ref x0), some (.int x1), some (.int x2), some (.int x3)], [.ref x0, .int (16 : Int32), .ref (fr x0 3)], σ)) r80_142 rfl rfl <| Er.st (P := (x0 < 24 ∧ kls x0 = 5)) (c2 := (146, [some (.ref x0), some (.int x1), some (.int x2), some (.int x3)], [.int (gfi σ x0 1), .int (16 : Int32), .ref (fr x0 3)], σ)) r80_143 rfl rfl h1 <| Er.sT (c2 := (147, [some (.ref x0), some (.int x1), some (.int x2), some (.int x3)], [.int ((16 : Int32) * (gfi σ x0 1)), .ref (fr x0 3)], σ)) r80_146 rfl rfl <| Er.sT (c2 := (148, [some (.ref x0), some (.int x1), some (.int x2), some (.int x3)], [.int x3, .int ((16 : Int32) * (gfi σ x0 1)), .ref (fr x0 3)], σ)) r80_147 rfl rfl <| Er.sT (c2 := (149, [some (.ref x0), some (.int x1), some (.int x2), some (.int x3)], [.int (((16 : Int32) * (gfi σ x0 1)) + x3), .ref (fr x0 3)], σ)) r80_148 rfl rfl <| Er.sT (c2 := (150, [some (.ref x0), some (.int x1), some (.int x2), some (.int x3)], [.ref x0, .int (((16 : Int32) * (gfi σ x0 1)) + x3), .ref (fr x0 3)], σ)) r80_149 rfl rfl <| Er.st (P := (x0 < 24 ∧ kls x0 = 5)) (c2 := (153, [some (.ref x0), some (.int x1), some (.int x2), some (.int x3)], [.ref (fr x0 4), .int (((16 : Int32) * (gfi σ x0 1)) + x3), .ref (fr x0 3)], σ)) r80_150 rfl rfl h1 <| Er.sT (c2 := (154, [some (.ref x0), some (.int x1), some (.int x2), some (.int x3)], [.int x3, .ref (fr x0 4), .int (((16 : Int32) * (gfi σ x0 1)) + x3), .ref (fr x0 3)], σ)) r80_153 rfl rfl <| Er.st (P := (isL (fr x0 4) ∧ vp_in x3 (ale (fr x0 4)))) (c2 := (155, [some (.ref x0), some (.int x1), some (.int x2), some (.int x3)], [.long (gal σ (fr x0 4) x3.toNatClampNeg), .int (((16 : Int32) * (gfi σ x0 1)) + x3), .ref (fr x0 3)], σ)) r80_154 rfl rfl h2 <| Er.st (P := (isL (fr x0 3) ∧ vp_in (((16 : Int32) * (gfi σ x0 1)) + x3) (ale (fr x0 3)))) (c2 := (156, [some (.ref x0), some (.int x1), some (.int x2), some (.int x3)], [], (sal σ (fr x0 3) (((16 : Int32) * (gfi σ x0 1)) + x3).toNatClampNeg (gal σ (fr x0 4) x3.toNatClampNeg)))) r80_155 rfl rfl h3 <| Er.sT (c2 := (157, [some (.ref x0), some (.int x1), some (.int x2), some (.int x3)], [.ref x0], (sal σ (fr x0 3) (((16 : Int32) * (gfi σ x0 1)) + x3).toNatClampNeg (gal σ (fr x0 4) x3.toNatClampNeg)))) r80_156 rfl rfl <| Er.st (P := (x0 < 24 ∧ kls x0 = 5)) (c2 := (160, [some (.ref x0), some (.int x1), some (.int x2), some (.int x3)], [.ref (fr x0 3)], (sal σ (fr x0 3) (((16 : Int32) * (gfi σ x0 1)) + x3).toNatClampNeg (gal σ (fr x0 4) x3.toNatClampNeg)))) r80_157 rfl rfl h1 <| Er.sT (c2 := (162, [some (.ref x0), some (.int x1), some (.int x2), some (.int x3)], [.int (16 : Int32), .ref (fr x0 3)], (sal σ (fr x0 3) (((16 : Int32) * (gfi σ x0 1)) + x3).toNatClampNeg (gal σ (fr x0 4) x3.toNatClampNeg)))) r80_160 rfl rfl <| Er.sT (c2 := (163, [some (.ref x0), some (.int x1), some (.int x2), some (.int x3)], [.ref x0, .int (16 : Int32), .ref (fr x0 3)], (sal σ (fr x0 3) (((16 : Int32) * (gfi σ x0 1)) + x3).toNatClampNeg (gal σ (fr x0 4) x3.toNatClampNeg)))) r80_162 rfl rfl <| Er.st (P := (x0 < 24 ∧ kls x0 = 5)) (c2 := (166, [some (.ref x0), some (.int x1), some (.int x2), some (.int x3)], [.int (gfi (sal σ (fr x0 3) (((16 : Int32) * (gfi σ x0 1)) + x3).toNatClampNeg (gal σ (fr x0 4) x3.toNatClampNeg)) x0 1), .int (16 : Int32), .ref (fr x0 3)], (sal σ (fr x0 3) (((16 : Int32) * (gfi σ x0 1)) + x3).toNatClampNeg (gal σ (fr x0 4) x3.toNatClampNeg)))) r80_163 rfl rfl h1 <| Er.sT (c2 := (167, [some (.ref x0), some (.int x1), some (.int x2), some (.int x3)], [.int ((16 : Int32) * (gfi (sal σ (fr x0 3) (((16 : Int32) * (gfi σ x0 1)) + x3).toNatClampNeg (gal σ (fr x0 4) x3.toNatClampNeg)) x0 1)), .ref (fr x0 3)], (sal σ (fr x0 3) (((16 : Int32) * (gfi σ x0 1)) + x3).toNatClampNeg (gal σ (fr x0 4) x3.toNatClampNeg)))) r80_166 rfl rfl <| Er.sT (c2 := (169, [some (.ref x0), some (.int x1), some (.int x2), some (.int x3)], [.int (8 : Int32), .int ((16 : Int32) * (gfi (sal σ (fr x0 3) (((16 : Int32) * (gfi σ x0 1)) + x3).toNatClampNeg (gal σ (fr x0 4) x3.toNatClampNeg)) x0 1)), .ref (fr x0 3)], (sal σ (fr x0 3) (((16 : Int32) * (gfi σ x0 1)) + x3).toNatClampNeg (gal σ (fr x0 4) x3.toNatClampNeg)))) r80_167 rfl rfl <| Er.sT (c2 := (170, [some (.ref x0), some (.int x1), some (.int x2), some (.int x3)], [.int (((16 : Int32) * (gfi (sal σ (fr x0 3) (((16 : Int32) * (gfi σ x0 1)) + x3).toNatClampNeg (gal σ (fr x0 4) x3.toNatClampNeg)) x0 1)) + (8 : Int32)), .ref (fr x0 3)], (sal σ (fr x0 3) (((16 : Int32) * (gfi σ x0 1)) + x3).toNatClampNeg (gal σ (fr x0 4) x3.toNatClampNeg)))) r80_169 rfl rfl <| Er.sT (c2 := (171, [some (.ref x0), some (.int x1), some (.int x2), some (.int x3)], [.int x3, .int (((16 : Int32) * (gfi (sal σ (fr x0 3) (((16 : Int32) * (gfi σ x0 1)) + x3).toNatClampNeg (gal σ (fr x0 4) x3.toNatClampNeg)) x0 1)) + (8 : Int32)), .ref (fr x0 3)], (sal σ (fr x0 3) (((16 : Int32) * (gfi σ x0 1)) + x3).toNatClampNeg (gal σ (fr x0 4) x3.toNatClampNeg)))) r80_170 rfl rfl <| Er.sT (c2 := (172, [some (.ref x0), some (.int x1), some (.int x2), some (.int x3)], [.int ((((16 : Int32) * (gfi (sal σ (fr x0 3) (((16 : Int32) * (gfi σ x0 1)) + x3).toNatClampNeg (gal σ (fr x0 4) x3.toNatClampNeg)) x0 1)) + (8 : Int32)) + x3), .ref (fr x0 3)], (sal σ (fr x0 3) (((16 : Int32) * (gfi σ x0 1)) + x3).toNatClampNeg (gal σ (fr x0 4) x3.toNatClampNeg)))) r80_171 rfl rfl <| Er.sT (c2 := (173, [some (.ref x0), some (.int x1), some (.int x2), some (.int x3)], [.ref x0, .int ((((16 : Int32) * (gfi (sal σ (fr x0 3) (((16 : Int32) * (gfi σ x0 1)) + x3).toNatClampNeg (gal σ (fr x0 4) x3.toNatClampNeg)) x0 1)) + (8 : Int32)) + x3), .ref (fr x0 3)], (sal σ (fr x0 3) (((16 : Int32) * (gfi σ x0 1)) + x3).toNatClampNeg (gal σ (fr x0 4) x3.toNatClampNeg)))) r80_172 rfl rfl <| Er.st (P := (x0 < 24 ∧ kls x0 = 5)) (c2 := (176, [some (.ref x0), some (.int x1), some (.int x2), some (.int x3)], [.ref (fr x0 4), .int ((((16 : Int32) * (gfi (sal σ (fr x0 3) (((16 : Int32) * (gfi σ x0 1)) + x3).toNatClampNeg (gal σ (fr x0 4) x3.toNatClampNeg)) x0 1)) + (8 : Int32)) + x3), .ref (fr x0 3)], (sal σ (fr x0 3) (((16 : Int32) * (gfi σ x0 1)) + x3).toNatClampNeg (gal σ (fr x0 4) x3.toNatClampNeg)))) r80_173 rfl rfl h1 <| Er.sT (c2 := (178, [some (.ref x0), some (.int x1), some (.int x2), some (.int x3)], [.int (64 : Int32), .ref (fr x0 4), .int ((((16 : Int32) * (gfi (sal σ (fr x0 3) (((16 : Int32) * (gfi σ x0 1)) + x3).toNatClampNeg (gal σ (fr x0 4) x3.toNatClampNeg)) x0 1)) + (8 : Int32)) + x3), .ref (fr x0 3)], (sal σ (fr x0 3) (((16 : Int32) * (gfi σ x0 1)) + x3).toNatClampNeg (gal σ (fr x0 4) x3.toNatClampNeg)))) r80_176 rfl rfl <| Er.sT (c2 := (179, [some (.ref x0), some (.int x1), some (.int x2), some (.int x3)], [.int x3, .int (64 : Int32), .ref (fr x0 4), .int ((((16 : Int32) * (gfi (sal σ (fr x0 3) (((16 : Int32) * (gfi σ x0 1)) + x3).toNatClampNeg (gal σ (fr x0 4) x3.toNatClampNeg)) x0 1)) + (8 : Int32)) + x3), .ref (fr x0 3)], (sal σ (fr x0 3) (((16 : Int32) * (gfi σ x0 1)) + x3).toNatClampNeg (gal σ (fr x0 4) x3.toNatClampNeg)))) r80_178 rfl rfl <| Er.sT (c2 := (180, [some (.ref x0), some (.int x1), some (.int x2), some (.int x3)], [.int ((64 : Int32) + x3), .ref (fr x0 4), .int ((((16 : Int32) * (gfi (sal σ (fr x0 3) (((16 : Int32) * (gfi σ x0 1)) + x3).toNatClampNeg (gal σ (fr x0 4) x3.toNatClampNeg)) x0 1)) + (8 : Int32)) + x3), .ref (fr x0 3)], (sal σ (fr x0 3) (((16 : Int32) * (gfi σ x0 1)) + x3).toNatClampNeg (gal σ (fr x0 4) x3.toNatClampNeg)))) r80_179 rfl rfl <| Er.st (P := (isL (fr x0 4) ∧ vp_in ((64 : Int32) + x3) (ale (fr x0 4)))) (c2 := (181, [some (.ref x0), some (.int x1), some (.int x2), some (.int x3)], [.long (gal (sal σ (fr x0 3) (((16 : Int32) * (gfi σ x0 1)) + x3).toNatClampNeg (gal σ (fr x0 4) x3.toNatClampNeg)) (fr x0 4) ((64 : Int32) + x3).toNatClampNeg), .int ((((16 : Int32) * (gfi (sal σ (fr x0 3) (((16 : Int32) * (gfi σ x0 1)) + x3).toNatClampNeg (gal σ (fr x0 4) x3.toNatClampNeg)) x0 1)) + (8 : Int32)) + x3), .ref (fr x0 3)], (sal σ (fr x0 3) (((16 : Int32) * (gfi σ x0 1)) + x3).toNatClampNeg (gal σ (fr x0 4) x3.toNatClampNeg)))) r80_180 rfl rfl h4 <| Er.st (P := (isL (fr x0 3) ∧ vp_in ((((16 : Int32) * (gfi (sal σ (fr x0 3) (((16 : Int32) * (gfi σ x0 1)) + x3).toNatClampNeg (gal σ (fr x0 4) x3.toNatClampNeg)) x0 1)) + (8 : Int32)) + x3) (ale (fr x0 3)))) (c2 := (182, [some (.ref x0), some (.int x1), some (.int x2), some (.int x3)], [], (sal (sal σ (fr x0 3) (((16 : Int32) * (gfi σ x0 1)) + x3).toNatClampNeg (gal σ (fr x0 4) x3.toNatClampNeg)) (fr x0 3) ((((16 : Int32) * (gfi (sal σ (fr x0 3) (((16 : Int32) * (gfi σ x0 1)) + x3).toNatClampNeg (gal σ (fr x0 4) x3.toNatClampNeg)) x0 1)) + (8 : Int32)) + x3).toNatClampNeg (gal (sal σ (fr x0 3) (((16 : Int32) * (gfi σ x0 1)) + x3).toNatClampNeg (gal σ (fr x0 4) x3.toNatClampNeg)) (fr x0 4) ((64 : Int32) + x3).toNatClampNeg)))) r80_181 rfl rfl h5 <| Er.sT (c2 := (185, [some (.ref x0), some (.int x1), some (.int x2), some (.int (x3 + (1 : Int32)))], [], (sal (sal σ (fr x0 3) (((16 : Int32) * (gfi σ x0 1)) + x3).toNatClampNeg (gal σ (fr x0 4) x3.toNatClampNeg)) (fr x0 3) ((((16 : Int32) * (gfi (sal σ (fr x0 3) (((16 : Int32) * (gfi σ x0 1)) + x3).toNatClampNeg (gal σ (fr x0 4) x3.toNatClampNeg)) x0 1)) + (8 : Int32)) + x3).toNatClampNeg (gal (sal σ (fr x0 3) (((16 : Int32) * (gfi σ x0 1)) + x3).toNatClampNeg (gal σ (fr x0 4) x3.toNatClampNeg)) (fr x0 4) ((64 : Int32) + x3).toNatClampNeg)))) r80_182 rfl rfl <| Er.sT (c2 := (130, [some (.ref x0), some (.int x1), some (.int x2), some (.int (x3 + (1 : Int32)))], [], (sal (sal σ (fr x0 3) (((16 : Int32) * (gfi σ x0 1)) + x3).toNatClampNeg (gal σ (fr x0 4) x3.toNatClampNeg)) (fr x0 3) ((((16 : Int32) * (gfi (sal σ (fr x0 3) (((16 : Int32) * (gfi σ x0 1)) + x3).toNatClampNeg (gal σ (fr x0 4) x3.toNatClampNeg)) x0 1)) + (8 : Int32)) + x3).toNatClampNeg (gal (sal σ (fr x0 3) (((16 : Int32) * (gfi σ x0 1)) + x3).toNatClampNeg (gal σ (fr x0 4) x3.toNatClampNeg)) (fr x0 4) ((64 : Int32) + x3).toNatClampNeg)))) r80_185 rfl rfl <| k
theorem b80_188 {d : Nat} {x0 : Nat} {x1 : Int32} {x2 : Int32} {x3 : Int32} {σ : St} (h1 : x0 < 24 ∧ kls x0 = 5) (h2 : x0 < 24 ∧ kls x0 = 5 ∧ ft 5 1 = 0) :
    Er (d + 1) 80 (188, [some (.ref x0), some (.int x1), some (.int x2), some (.int x3)], [], σ) (.inl (some (.int ((gfi (sfi σ x0 1 ((gfi σ x0 1) + (1 : Int32))) x0 1) - (1 : Int32)))), (sfi σ x0 1 ((gfi σ x0 1) + (1 : Int32))), 0) := Er.sT (c2 := (189, [some (.ref x0), some (.int x1), some (.int x2), some (.int x3)], [.ref x0], σ)) r80_188 rfl rfl <| Er.sT (c2 := (190, [some (.ref x0), some (.int x1), some (.int x2), some (.int x3)], [.ref x0, .ref x0], σ)) r80_189 rfl rfl <| Er.st (P := (x0 < 24 ∧ kls x0 = 5)) (c2 := (193, [some (.ref x0), some (.int x1), some (.int x2), some (.int x3)], [.int (gfi σ x0 1), .ref x0], σ)) r80_190 rfl rfl h1 <| Er.sT (c2 := (194, [some (.ref x0), some (.int x1), some (.int x2), some (.int x3)], [.int (1 : Int32), .int (gfi σ x0 1), .ref x0], σ)) r80_193 rfl rfl <| Er.sT (c2 := (195, [some (.ref x0), some (.int x1), some (.int x2), some (.int x3)], [.int ((gfi σ x0 1) + (1 : Int32)), .ref x0], σ)) r80_194 rfl rfl <| Er.st (P := (x0 < 24 ∧ kls x0 = 5 ∧ ft 5 1 = 0)) (c2 := (198, [some (.ref x0), some (.int x1), some (.int x2), some (.int x3)], [], (sfi σ x0 1 ((gfi σ x0 1) + (1 : Int32))))) r80_195 rfl rfl h2 <| Er.sT (c2 := (199, [some (.ref x0), some (.int x1), some (.int x2), some (.int x3)], [.ref x0], (sfi σ x0 1 ((gfi σ x0 1) + (1 : Int32))))) r80_198 rfl rfl <| Er.st (P := (x0 < 24 ∧ kls x0 = 5)) (c2 := (202, [some (.ref x0), some (.int x1), some (.int x2), some (.int x3)], [.int (gfi (sfi σ x0 1 ((gfi σ x0 1) + (1 : Int32))) x0 1)], (sfi σ x0 1 ((gfi σ x0 1) + (1 : Int32))))) r80_199 rfl rfl h1 <| Er.sT (c2 := (203, [some (.ref x0), some (.int x1), some (.int x2), some (.int x3)], [.int (1 : Int32), .int (gfi (sfi σ x0 1 ((gfi σ x0 1) + (1 : Int32))) x0 1)], (sfi σ x0 1 ((gfi σ x0 1) + (1 : Int32))))) r80_202 rfl rfl <| Er.sT (c2 := (204, [some (.ref x0), some (.int x1), some (.int x2), some (.int x3)], [.int ((gfi (sfi σ x0 1 ((gfi σ x0 1) + (1 : Int32))) x0 1) - (1 : Int32))], (sfi σ x0 1 ((gfi σ x0 1) + (1 : Int32))))) r80_203 rfl rfl <| (Er.ret r80_204 rfl ⟨_, _, rfl, rfl, rfl, rfl⟩)
/-! NumberModelsModel.isZero(I)Z -/
theorem tab_81 : tab 81 = tb81_0 := rfl
theorem ch81_0 {j : Nat} {r : Row} (h : tb81_0[j]? = some r) : rowAt 81 r.1 = some r := row_mem 81 (by decide) (by rw [tab_81]; exact List.mem_of_getElem? h)
theorem r81_0 : rowAt 81 0 = some (r0 0 1 (.iconst 0)) := ch81_0 (j := 0) rfl
theorem r81_1 : rowAt 81 1 = some (ra 1 2 (.istore_n 2) 2 0 0) := ch81_0 (j := 1) rfl
theorem r81_2 : rowAt 81 2 = some (ra 2 3 (.iload_n 2) 2 0 0) := ch81_0 (j := 2) rfl
theorem r81_3 : rowAt 81 3 = some (3, 5, .bipush 64, 0, 0, 0, 64, 0) := ch81_0 (j := 3) rfl
theorem r81_5 : rowAt 81 5 = some (ra 5 8 (.if_icmp .ge 27) 32 0 0) := ch81_0 (j := 4) rfl
theorem r81_8 : rowAt 81 8 = some (r0 8 9 (.aload_n 0)) := ch81_0 (j := 5) rfl
theorem r81_9 : rowAt 81 9 = some (ra 9 12 (.getfield 17) 4 5 877) := ch81_0 (j := 6) rfl
theorem r81_12 : rowAt 81 12 = some (12, 14, .bipush 64, 0, 0, 0, 64, 0) := ch81_0 (j := 7) rfl
theorem r81_14 : rowAt 81 14 = some (ra 14 15 (.iload_n 1) 1 0 0) := ch81_0 (j := 8) rfl
theorem r81_15 : rowAt 81 15 = some (r0 15 16 (.imul)) := ch81_0 (j := 9) rfl
theorem r81_16 : rowAt 81 16 = some (ra 16 17 (.iload_n 2) 2 0 0) := ch81_0 (j := 10) rfl
theorem r81_17 : rowAt 81 17 = some (r0 17 18 (.iadd)) := ch81_0 (j := 11) rfl
theorem r81_18 : rowAt 81 18 = some (r0 18 19 (.laload)) := ch81_0 (j := 12) rfl
theorem r81_19 : rowAt 81 19 = some (r0 19 20 (.lconst 0)) := ch81_0 (j := 13) rfl
theorem r81_20 : rowAt 81 20 = some (r0 20 21 (.lcmp)) := ch81_0 (j := 14) rfl
theorem r81_21 : rowAt 81 21 = some (ra 21 24 (.ifCond .eq 5) 26 0 0) := ch81_0 (j := 15) rfl
theorem r81_24 : rowAt 81 24 = some (r0 24 25 (.iconst 0)) := ch81_0 (j := 16) rfl
theorem r81_25 : rowAt 81 25 = some (r0 25 26 (.ireturn)) := ch81_0 (j := 17) rfl
theorem r81_26 : rowAt 81 26 = some (26, 29, .iinc 2 1, 2, 0, 0, 1, 0) := ch81_0 (j := 18) rfl
theorem r81_29 : rowAt 81 29 = some (ra 29 32 (.goto (-27)) 2 0 0) := ch81_0 (j := 19) rfl
theorem r81_32 : rowAt 81 32 = some (32, 33, .iconst 1, 0, 0, 0, 1, 0) := ch81_0 (j := 20) rfl
theorem r81_33 : rowAt 81 33 = some (r0 33 34 (.ireturn)) := ch81_0 (j := 21) rfl
theorem b81_0 {d : Nat} {q : Rs} {x0 : Nat} {x1 : Int32} {σ : St} 
    (k : Er (d + 1) 81 (2, [some (.ref x0), some (.int x1), some (.int (0 : Int32))], [], σ) q) :
    Er (d + 1) 81 (0, [some (.ref x0), some (.int x1), none], [], σ) q := Er.sT (c2 := (1, [some (.ref x0), some (.int x1), none], [.int (0 : Int32)], σ)) r81_0 rfl rfl <| Er.sT (c2 := (2, [some (.ref x0), some (.int x1), some (.int (0 : Int32))], [], σ)) r81_1 rfl rfl <| k
theorem b81_2 {d : Nat} {q : Rs} {x0 : Nat} {x1 : Int32} {x2 : Int32} {σ : St} 
    (kt : (64 : Int32) ≤ x2 → Er (d + 1) 81 (32, [some (.ref x0), some (.int x1), some (.int x2)], [], σ) q)
    (kf : ¬ (64 : Int32) ≤ x2 → Er (d + 1) 81 (8, [some (.ref x0), some (.int x1), some (.int x2)], [], σ) q) :
    Er (d + 1) 81 (2, [some (.ref x0), some (.int x1), some (.int x2)], [], σ) q := Er.sT (c2 := (3, [some (.ref x0), some (.int x1), some (.int x2)], [.int x2], σ)) r81_2 rfl rfl <| Er.sT (c2 := (5, [some (.ref x0), some (.int x1), some (.int x2)], [.int (64 : Int32), .int x2], σ)) r81_3 rfl rfl <| Er.sT (c2 := (brn .ge x2 (64 : Int32) 32 8, [some (.ref x0), some (.int x1), some (.int x2)], [], σ)) r81_5 rfl rfl <| (br_ge kt kf)
theorem b81_8 {d : Nat} {q : Rs} {x0 : Nat} {x1 : Int32} {x2 : Int32} {σ : St} (h1 : x0 < 24 ∧ kls x0 = 5) (h2 : isL (fr x0 4) ∧ vp_in (((64 : Int32) * x1) + x2) (ale (fr x0 4)))
    (kt : (gal σ (fr x0 4) (((64 : Int32) * x1) + x2).toNatClampNeg) = (0 : Int64) → Er (d + 1) 81 (26, [some (.ref x0), some (.int x1), some (.int x2)], [], σ) q)
    (kf : ¬ (gal σ (fr x0 4) (((64 : Int32) * x1) + x2).toNatClampNeg) = (0 : Int64) → Er (d + 1) 81 (24, [some (.ref x0), some (.int x1), some (.int x2)], [], σ) q) :
    Er (d + 1) 81 (8, [some (.ref x0), some (.int x1), some (.int x2)], [], σ) q := Er.sT (c2 := (9, [some (.ref x0), some (.int x1), some (.int x2)], [.ref x0], σ)) r81_8 rfl rfl <| Er.st (P := (x0 < 24 ∧ kls x0 = 5)) (c2 := (12, [some (.ref x0), some (.int x1), some (.int x2)], [.ref (fr x0 4)], σ)) r81_9 rfl rfl h1 <| Er.sT (c2 := (14, [some (.ref x0), some (.int x1), some (.int x2)], [.int (64 : Int32), .ref (fr x0 4)], σ)) r81_12 rfl rfl <| Er.sT (c2 := (15, [some (.ref x0), some (.int x1), some (.int x2)], [.int x1, .int (64 : Int32), .ref (fr x0 4)], σ)) r81_14 rfl rfl <| Er.sT (c2 := (16, [some (.ref x0), some (.int x1), some (.int x2)], [.int ((64 : Int32) * x1), .ref (fr x0 4)], σ)) r81_15 rfl rfl <| Er.sT (c2 := (17, [some (.ref x0), some (.int x1), some (.int x2)], [.int x2, .int ((64 : Int32) * x1), .ref (fr x0 4)], σ)) r81_16 rfl rfl <| Er.sT (c2 := (18, [some (.ref x0), some (.int x1), some (.int x2)], [.int (((64 : Int32) * x1) + x2), .ref (fr x0 4)], σ)) r81_17 rfl rfl <| Er.st (P := (isL (fr x0 4) ∧ vp_in (((64 : Int32) * x1) + x2) (ale (fr x0 4)))) (c2 := (19, [some (.ref x0), some (.int x1), some (.int x2)], [.long (gal σ (fr x0 4) (((64 : Int32) * x1) + x2).toNatClampNeg)], σ)) r81_18 rfl rfl h2 <| Er.sT (c2 := (20, [some (.ref x0), some (.int x1), some (.int x2)], [.long (0 : Int64), .long (gal σ (fr x0 4) (((64 : Int32) * x1) + x2).toNatClampNeg)], σ)) r81_19 rfl rfl <| Er.sT (c2 := (21, [some (.ref x0), some (.int x1), some (.int x2)], [.int (lg_cmp (gal σ (fr x0 4) (((64 : Int32) * x1) + x2).toNatClampNeg) (0 : Int64))], σ)) r81_20 rfl rfl <| Er.sT (c2 := (brn .eq (lg_cmp (gal σ (fr x0 4) (((64 : Int32) * x1) + x2).toNatClampNeg) (0 : Int64)) (0 : Int32) 26 24, [some (.ref x0), some (.int x1), some (.int x2)], [], σ)) r81_21 rfl rfl <| (bl_eq kt kf)
theorem b81_24 {d : Nat} {x0 : Nat} {x1 : Int32} {x2 : Int32} {σ : St} (hz : narrow .boolean (.int (0 : Int32)) = .int (0 : Int32)) :
    Er (d + 1) 81 (24, [some (.ref x0), some (.int x1), some (.int x2)], [], σ) (.inl (some (.int (0 : Int32))), σ, 0) := Er.sT (c2 := (25, [some (.ref x0), some (.int x1), some (.int x2)], [.int (0 : Int32)], σ)) r81_24 rfl rfl <| (Er.ret r81_25 rfl ⟨_, _, rfl, rfl, hz, rfl⟩)
theorem b81_26 {d : Nat} {q : Rs} {x0 : Nat} {x1 : Int32} {x2 : Int32} {σ : St} 
    (k : Er (d + 1) 81 (2, [some (.ref x0), some (.int x1), some (.int (x2 + (1 : Int32)))], [], σ) q) :
    Er (d + 1) 81 (26, [some (.ref x0), some (.int x1), some (.int x2)], [], σ) q := Er.sT (c2 := (29, [some (.ref x0), some (.int x1), some (.int (x2 + (1 : Int32)))], [], σ)) r81_26 rfl rfl <| Er.sT (c2 := (2, [some (.ref x0), some (.int x1), some (.int (x2 + (1 : Int32)))], [], σ)) r81_29 rfl rfl <| k
theorem b81_32 {d : Nat} {x0 : Nat} {x1 : Int32} {x2 : Int32} {σ : St} (hz : narrow .boolean (.int (1 : Int32)) = .int (1 : Int32)) :
    Er (d + 1) 81 (32, [some (.ref x0), some (.int x1), some (.int x2)], [], σ) (.inl (some (.int (1 : Int32))), σ, 0) := Er.sT (c2 := (33, [some (.ref x0), some (.int x1), some (.int x2)], [.int (1 : Int32)], σ)) r81_32 rfl rfl <| (Er.ret r81_33 rfl ⟨_, _, rfl, rfl, hz, rfl⟩)
/-! NumberModelsModel.greatest(II)V -/
theorem tab_82 : tab 82 = tb82_0 ++ tb82_1 := rfl
theorem ch82_0 {j : Nat} {r : Row} (h : tb82_0[j]? = some r) : rowAt 82 r.1 = some r := row_mem 82 (by decide) (by rw [tab_82]; exact (List.mem_append_left _ (List.mem_of_getElem? h)))
theorem ch82_1 {j : Nat} {r : Row} (h : tb82_1[j]? = some r) : rowAt 82 r.1 = some r := row_mem 82 (by decide) (by rw [tab_82]; exact (List.mem_append_right _ (List.mem_of_getElem? h)))
theorem r82_0 : rowAt 82 0 = some (r0 0 1 (.aload_n 0)) := ch82_0 (j := 0) rfl
theorem r82_1 : rowAt 82 1 = some (ra 1 2 (.iload_n 1) 1 0 0) := ch82_0 (j := 1) rfl
theorem r82_2 : rowAt 82 2 = some (2, 4, .bipush 14, 0, 0, 0, 14, 0) := ch82_0 (j := 2) rfl
theorem r82_4 : rowAt 82 4 = some (ra 4 7 (.invokevirtual 49) 83 3 936) := ch82_0 (j := 3) rfl
theorem r82_7 : rowAt 82 7 = some (r0 7 8 (.aload_n 0)) := ch82_0 (j := 4) rfl
theorem r82_8 : rowAt 82 8 = some (ra 8 9 (.iload_n 2) 2 0 0) := ch82_0 (j := 5) rfl
theorem r82_9 : rowAt 82 9 = some (9, 11, .bipush 15, 0, 0, 0, 15, 0) := ch82_0 (j := 6) rfl
theorem r82_11 : rowAt 82 11 = some (ra 11 14 (.invokevirtual 49) 83 3 936) := ch82_0 (j := 7) rfl
theorem r82_14 : rowAt 82 14 = some (r0 14 15 (.aload_n 0)) := ch82_0 (j := 8) rfl
theorem r82_15 : rowAt 82 15 = some (15, 17, .bipush 14, 0, 0, 0, 14, 0) := ch82_0 (j := 9) rfl
theorem r82_17 : rowAt 82 17 = some (ra 17 20 (.invokevirtual 52) 81 2 928) := ch82_0 (j := 10) rfl
theorem r82_20 : rowAt 82 20 = some (ra 20 23 (.ifCond .ne 12) 32 0 0) := ch82_0 (j := 11) rfl
theorem r82_23 : rowAt 82 23 = some (r0 23 24 (.aload_n 0)) := ch82_0 (j := 12) rfl
theorem r82_24 : rowAt 82 24 = some (24, 26, .bipush 15, 0, 0, 0, 15, 0) := ch82_0 (j := 13) rfl
theorem r82_26 : rowAt 82 26 = some (ra 26 29 (.invokevirtual 52) 81 2 928) := ch82_0 (j := 14) rfl
theorem r82_29 : rowAt 82 29 = some (ra 29 32 (.ifCond .eq 21) 50 0 0) := ch82_0 (j := 15) rfl
theorem r82_32 : rowAt 82 32 = some (r0 32 33 (.aload_n 0)) := ch82_0 (j := 16) rfl
theorem r82_33 : rowAt 82 33 = some (33, 35, .bipush 14, 0, 0, 0, 14, 0) := ch82_0 (j := 17) rfl
theorem r82_35 : rowAt 82 35 = some (ra 35 38 (.invokevirtual 52) 81 2 928) := ch82_0 (j := 18) rfl
theorem r82_38 : rowAt 82 38 = some (ra 38 41 (.ifCond .eq 11) 49 0 0) := ch82_0 (j := 19) rfl
theorem r82_41 : rowAt 82 41 = some (r0 41 42 (.aload_n 0)) := ch82_0 (j := 20) rfl
theorem r82_42 : rowAt 82 42 = some (42, 44, .bipush 15, 0, 0, 0, 15, 0) := ch82_0 (j := 21) rfl
theorem r82_44 : rowAt 82 44 = some (44, 46, .bipush 14, 0, 0, 0, 14, 0) := ch82_0 (j := 22) rfl
theorem r82_46 : rowAt 82 46 = some (ra 46 49 (.invokevirtual 49) 83 3 936) := ch82_0 (j := 23) rfl
theorem r82_49 : rowAt 82 49 = some (r0 49 50 (.return_)) := ch82_0 (j := 24) rfl
theorem r82_50 : rowAt 82 50 = some (r0 50 51 (.iconst 0)) := ch82_0 (j := 25) rfl
theorem r82_51 : rowAt 82 51 = some (ra 51 52 (.istore_n 3) 3 0 0) := ch82_0 (j := 26) rfl
theorem r82_52 : rowAt 82 52 = some (r0 52 53 (.aload_n 0)) := ch82_0 (j := 27) rfl
theorem r82_53 : rowAt 82 53 = some (53, 55, .bipush 14, 0, 0, 0, 14, 0) := ch82_0 (j := 28) rfl
theorem r82_55 : rowAt 82 55 = some (ra 55 58 (.invokevirtual 56) 84 2 940) := ch82_0 (j := 29) rfl
theorem r82_58 : rowAt 82 58 = some (ra 58 61 (.ifCond .eq 30) 88 0 0) := ch82_0 (j := 30) rfl
theorem r82_61 : rowAt 82 61 = some (r0 61 62 (.aload_n 0)) := ch82_0 (j := 31) rfl
theorem r82_62 : rowAt 82 62 = some (62, 64, .bipush 15, 0, 0, 0, 15, 0) := ch82_0 (j := 32) rfl
theorem r82_64 : rowAt 82 64 = some (ra 64 67 (.invokevirtual 56) 84 2 940) := ch82_0 (j := 33) rfl
theorem r82_67 : rowAt 82 67 = some (ra 67 70 (.ifCond .eq 21) 88 0 0) := ch82_0 (j := 34) rfl
theorem r82_70 : rowAt 82 70 = some (r0 70 71 (.aload_n 0)) := ch82_0 (j := 35) rfl
theorem r82_71 : rowAt 82 71 = some (71, 73, .bipush 14, 0, 0, 0, 14, 0) := ch82_0 (j := 36) rfl
theorem r82_73 : rowAt 82 73 = some (ra 73 76 (.invokevirtual 59) 85 2 944) := ch82_0 (j := 37) rfl
theorem r82_76 : rowAt 82 76 = some (r0 76 77 (.aload_n 0)) := ch82_0 (j := 38) rfl
theorem r82_77 : rowAt 82 77 = some (77, 79, .bipush 15, 0, 0, 0, 15, 0) := ch82_0 (j := 39) rfl
theorem r82_79 : rowAt 82 79 = some (ra 79 82 (.invokevirtual 59) 85 2 944) := ch82_0 (j := 40) rfl
theorem r82_82 : rowAt 82 82 = some (82, 85, .iinc 3 1, 3, 0, 0, 1, 0) := ch82_0 (j := 41) rfl
theorem r82_85 : rowAt 82 85 = some (ra 85 88 (.goto (-33)) 52 0 0) := ch82_0 (j := 42) rfl
theorem r82_88 : rowAt 82 88 = some (r0 88 89 (.aload_n 0)) := ch82_0 (j := 43) rfl
theorem r82_89 : rowAt 82 89 = some (89, 91, .bipush 15, 0, 0, 0, 15, 0) := ch82_0 (j := 44) rfl
theorem r82_91 : rowAt 82 91 = some (ra 91 94 (.invokevirtual 52) 81 2 928) := ch82_0 (j := 45) rfl
theorem r82_94 : rowAt 82 94 = some (ra 94 97 (.ifCond .ne 69) 163 0 0) := ch82_0 (j := 46) rfl
theorem r82_97 : rowAt 82 97 = some (r0 97 98 (.aload_n 0)) := ch82_0 (j := 47) rfl
theorem r82_98 : rowAt 82 98 = some (98, 100, .bipush 14, 0, 0, 0, 14, 0) := ch82_0 (j := 48) rfl
theorem r82_100 : rowAt 82 100 = some (ra 100 103 (.invokevirtual 56) 84 2 940) := ch82_0 (j := 49) rfl
theorem r82_103 : rowAt 82 103 = some (ra 103 106 (.ifCond .eq 12) 115 0 0) := ch82_0 (j := 50) rfl
theorem r82_106 : rowAt 82 106 = some (r0 106 107 (.aload_n 0)) := ch82_0 (j := 51) rfl
theorem r82_107 : rowAt 82 107 = some (107, 109, .bipush 14, 0, 0, 0, 14, 0) := ch82_0 (j := 52) rfl
theorem r82_109 : rowAt 82 109 = some (ra 109 112 (.invokevirtual 59) 85 2 944) := ch82_0 (j := 53) rfl
theorem r82_112 : rowAt 82 112 = some (ra 112 115 (.goto (-15)) 97 0 0) := ch82_0 (j := 54) rfl
theorem r82_115 : rowAt 82 115 = some (r0 115 116 (.aload_n 0)) := ch82_0 (j := 55) rfl
theorem r82_116 : rowAt 82 116 = some (116, 118, .bipush 15, 0, 0, 0, 15, 0) := ch82_0 (j := 56) rfl
theorem r82_118 : rowAt 82 118 = some (ra 118 121 (.invokevirtual 56) 84 2 940) := ch82_0 (j := 57) rfl
theorem r82_121 : rowAt 82 121 = some (ra 121 124 (.ifCond .eq 12) 133 0 0) := ch82_0 (j := 58) rfl
theorem r82_124 : rowAt 82 124 = some (r0 124 125 (.aload_n 0)) := ch82_0 (j := 59) rfl
theorem r82_125 : rowAt 82 125 = some (125, 127, .bipush 15, 0, 0, 0, 15, 0) := ch82_1 (j := 0) rfl
theorem r82_127 : rowAt 82 127 = some (ra 127 130 (.invokevirtual 59) 85 2 944) := ch82_1 (j := 1) rfl
theorem r82_130 : rowAt 82 130 = some (ra 130 133 (.goto (-15)) 115 0 0) := ch82_1 (j := 2) rfl
theorem r82_133 : rowAt 82 133 = some (r0 133 134 (.aload_n 0)) := ch82_1 (j := 3) rfl
theorem r82_134 : rowAt 82 134 = some (134, 136, .bipush 14, 0, 0, 0, 14, 0) := ch82_1 (j := 4) rfl
theorem r82_136 : rowAt 82 136 = some (136, 138, .bipush 15, 0, 0, 0, 15, 0) := ch82_1 (j := 5) rfl
theorem r82_138 : rowAt 82 138 = some (ra 138 141 (.invokevirtual 42) 86 3 948) := ch82_1 (j := 6) rfl
theorem r82_141 : rowAt 82 141 = some (ra 141 144 (.ifCond .le 11) 152 0 0) := ch82_1 (j := 7) rfl
theorem r82_144 : rowAt 82 144 = some (r0 144 145 (.aload_n 0)) := ch82_1 (j := 8) rfl
theorem r82_145 : rowAt 82 145 = some (145, 147, .bipush 14, 0, 0, 0, 14, 0) := ch82_1 (j := 9) rfl
theorem r82_147 : rowAt 82 147 = some (147, 149, .bipush 15, 0, 0, 0, 15, 0) := ch82_1 (j := 10) rfl
theorem r82_149 : rowAt 82 149 = some (ra 149 152 (.invokevirtual 62) 87 3 952) := ch82_1 (j := 11) rfl
theorem r82_152 : rowAt 82 152 = some (r0 152 153 (.aload_n 0)) := ch82_1 (j := 12) rfl
theorem r82_153 : rowAt 82 153 = some (153, 155, .bipush 15, 0, 0, 0, 15, 0) := ch82_1 (j := 13) rfl
theorem r82_155 : rowAt 82 155 = some (155, 157, .bipush 14, 0, 0, 0, 14, 0) := ch82_1 (j := 14) rfl
theorem r82_157 : rowAt 82 157 = some (ra 157 160 (.invokevirtual 46) 88 3 956) := ch82_1 (j := 15) rfl
theorem r82_160 : rowAt 82 160 = some (ra 160 163 (.goto (-72)) 88 0 0) := ch82_1 (j := 16) rfl
theorem r82_163 : rowAt 82 163 = some (r0 163 164 (.aload_n 0)) := ch82_1 (j := 17) rfl
theorem r82_164 : rowAt 82 164 = some (164, 166, .bipush 14, 0, 0, 0, 14, 0) := ch82_1 (j := 18) rfl
theorem r82_166 : rowAt 82 166 = some (ra 166 167 (.iload_n 3) 3 0 0) := ch82_1 (j := 19) rfl
theorem r82_167 : rowAt 82 167 = some (ra 167 170 (.invokevirtual 34) 89 3 960) := ch82_1 (j := 20) rfl
theorem r82_170 : rowAt 82 170 = some (r0 170 171 (.return_)) := ch82_1 (j := 21) rfl
theorem b82_0 {d : Nat} {q : Rs} {x0 : Nat} {x1 : Int32} {x2 : Int32} {σ : St} {σ2 : St}  (h1 : x0 < 24 ∧ kls x0 = 5)
    (hy : Er d 83 (0, ent 83 [.ref x0, .int x1, .int (14 : Int32)], [], σ) (.inl none, σ2, 0))
    (k : Er (d + 1) 82 (7, [some (.ref x0), some (.int x1), some (.int x2), none], [], σ2) q) :
    Er (d + 1) 82 (0, [some (.ref x0), some (.int x1), some (.int x2), none], [], σ) q := Er.sT (c2 := (1, [some (.ref x0), some (.int x1), some (.int x2), none], [.ref x0], σ)) r82_0 rfl rfl <| Er.sT (c2 := (2, [some (.ref x0), some (.int x1), some (.int x2), none], [.int x1, .ref x0], σ)) r82_1 rfl rfl <| Er.sT (c2 := (4, [some (.ref x0), some (.int x1), some (.int x2), none], [.int (14 : Int32), .int x1, .ref x0], σ)) r82_2 rfl rfl <| (Er.call (vs := [.ref x0, .int x1, .int (14 : Int32)]) (rest := []) r82_4 rfl rfl (Nat.le_of_ble_eq_true rfl) (Nat.le_of_ble_eq_true rfl) (fun _ => ⟨_, _, rfl, h1⟩) hy k)
theorem b82_7 {d : Nat} {q : Rs} {x0 : Nat} {x1 : Int32} {x2 : Int32} {σ : St} {σ2 : St}  (h1 : x0 < 24 ∧ kls x0 = 5)
    (hy : Er d 83 (0, ent 83 [.ref x0, .int x2, .int (15 : Int32)], [], σ) (.inl none, σ2, 0))
    (k : Er (d + 1) 82 (14, [some (.ref x0), some (.int x1), some (.int x2), none], [], σ2) q) :
    Er (d + 1) 82 (7, [some (.ref x0), some (.int x1), some (.int x2), none], [], σ) q := Er.sT (c2 := (8, [some (.ref x0), some (.int x1), some (.int x2), none], [.ref x0], σ)) r82_7 rfl rfl <| Er.sT (c2 := (9, [some (.ref x0), some (.int x1), some (.int x2), none], [.int x2, .ref x0], σ)) r82_8 rfl rfl <| Er.sT (c2 := (11, [some (.ref x0), some (.int x1), some (.int x2), none], [.int (15 : Int32), .int x2, .ref x0], σ)) r82_9 rfl rfl <| (Er.call (vs := [.ref x0, .int x2, .int (15 : Int32)]) (rest := []) r82_11 rfl rfl (Nat.le_of_ble_eq_true rfl) (Nat.le_of_ble_eq_true rfl) (fun _ => ⟨_, _, rfl, h1⟩) hy k)
theorem b82_14 {d : Nat} {q : Rs} {x0 : Nat} {x1 : Int32} {x2 : Int32} {σ : St} {σ2 : St} {r : Int32} (h1 : x0 < 24 ∧ kls x0 = 5)
    (hy : Er d 81 (0, ent 81 [.ref x0, .int (14 : Int32)], [], σ) (.inl (some (.int r)), σ2, 0))
    (k : Er (d + 1) 82 (20, [some (.ref x0), some (.int x1), some (.int x2), none], [.int r], σ2) q) :
    Er (d + 1) 82 (14, [some (.ref x0), some (.int x1), some (.int x2), none], [], σ) q := Er.sT (c2 := (15, [some (.ref x0), some (.int x1), some (.int x2), none], [.ref x0], σ)) r82_14 rfl rfl <| Er.sT (c2 := (17, [some (.ref x0), some (.int x1), some (.int x2), none], [.int (14 : Int32), .ref x0], σ)) r82_15 rfl rfl <| (Er.call (vs := [.ref x0, .int (14 : Int32)]) (rest := []) r82_17 rfl rfl (Nat.le_of_ble_eq_true rfl) (Nat.le_of_ble_eq_true rfl) (fun _ => ⟨_, _, rfl, h1⟩) hy k)
theorem b82_20 {d : Nat} {q : Rs} {x0 : Nat} {x1 : Int32} {x2 : Int32} {s0 : Int32} {σ : St} 
    (kt : ¬ s0 = (0 : Int32) → Er (d + 1) 82 (32, [some (.ref x0), some (.int x1), some (.int x2), none], [], σ) q)
    (kf : s0 = (0 : Int32) → Er (d + 1) 82 (23, [some (.ref x0), some (.int x1), some (.int x2), none], [], σ) q) :
    Er (d + 1) 82 (20, [some (.ref x0), some (.int x1), some (.int x2), none], [.int s0], σ) q := Er.sT (c2 := (brn .ne s0 (0 : Int32) 32 23, [some (.ref x0), some (.int x1), some (.int x2), none], [], σ)) r82_20 rfl rfl <| (br_ne kt kf)
theorem b82_23 {d : Nat} {q : Rs} {x0 : Nat} {x1 : Int32} {x2 : Int32} {σ : St} {σ2 : St} {r : Int32} (h1 : x0 < 24 ∧ kls x0 = 5)
    (hy : Er d 81 (0, ent 81 [.ref x0, .int (15 : Int32)], [], σ) (.inl (some (.int r)), σ2, 0))
    (k : Er (d + 1) 82 (29, [some (.ref x0), some (.int x1), some (.int x2), none], [.int r], σ2) q) :
    Er (d + 1) 82 (23, [some (.ref x0), some (.int x1), some (.int x2), none], [], σ) q := Er.sT (c2 := (24, [some (.ref x0), some (.int x1), some (.int x2), none], [.ref x0], σ)) r82_23 rfl rfl <| Er.sT (c2 := (26, [some (.ref x0), some (.int x1), some (.int x2), none], [.int (15 : Int32), .ref x0], σ)) r82_24 rfl rfl <| (Er.call (vs := [.ref x0, .int (15 : Int32)]) (rest := []) r82_26 rfl rfl (Nat.le_of_ble_eq_true rfl) (Nat.le_of_ble_eq_true rfl) (fun _ => ⟨_, _, rfl, h1⟩) hy k)
theorem b82_29 {d : Nat} {q : Rs} {x0 : Nat} {x1 : Int32} {x2 : Int32} {s0 : Int32} {σ : St} 
    (kt : s0 = (0 : Int32) → Er (d + 1) 82 (50, [some (.ref x0), some (.int x1), some (.int x2), none], [], σ) q)
    (kf : ¬ s0 = (0 : Int32) → Er (d + 1) 82 (32, [some (.ref x0), some (.int x1), some (.int x2), none], [], σ) q) :
    Er (d + 1) 82 (29, [some (.ref x0), some (.int x1), some (.int x2), none], [.int s0], σ) q := Er.sT (c2 := (brn .eq s0 (0 : Int32) 50 32, [some (.ref x0), some (.int x1), some (.int x2), none], [], σ)) r82_29 rfl rfl <| (br_eq kt kf)
theorem b82_32 {d : Nat} {q : Rs} {x0 : Nat} {x1 : Int32} {x2 : Int32} {σ : St} {σ2 : St} {r : Int32} (h1 : x0 < 24 ∧ kls x0 = 5)
    (hy : Er d 81 (0, ent 81 [.ref x0, .int (14 : Int32)], [], σ) (.inl (some (.int r)), σ2, 0))
    (k : Er (d + 1) 82 (38, [some (.ref x0), some (.int x1), some (.int x2), none], [.int r], σ2) q) :
    Er (d + 1) 82 (32, [some (.ref x0), some (.int x1), some (.int x2), none], [], σ) q := Er.sT (c2 := (33, [some (.ref x0), some (.int x1), some (.int x2), none], [.ref x0], σ)) r82_32 rfl rfl <| Er.sT (c2 := (35, [some (.ref x0), some (.int x1), some (.int x2), none], [.int (14 : Int32), .ref x0], σ)) r82_33 rfl rfl <| (Er.call (vs := [.ref x0, .int (14 : Int32)]) (rest := []) r82_35 rfl rfl (Nat.le_of_ble_eq_true rfl) (Nat.le_of_ble_eq_true rfl) (fun _ => ⟨_, _, rfl, h1⟩) hy k)
theorem b82_38 {d : Nat} {q : Rs} {x0 : Nat} {x1 : Int32} {x2 : Int32} {s0 : Int32} {σ : St} 
    (kt : s0 = (0 : Int32) → Er (d + 1) 82 (49, [some (.ref x0), some (.int x1), some (.int x2), none], [], σ) q)
    (kf : ¬ s0 = (0 : Int32) → Er (d + 1) 82 (41, [some (.ref x0), some (.int x1), some (.int x2), none], [], σ) q) :
    Er (d + 1) 82 (38, [some (.ref x0), some (.int x1), some (.int x2), none], [.int s0], σ) q := Er.sT (c2 := (brn .eq s0 (0 : Int32) 49 41, [some (.ref x0), some (.int x1), some (.int x2), none], [], σ)) r82_38 rfl rfl <| (br_eq kt kf)
theorem b82_41 {d : Nat} {q : Rs} {x0 : Nat} {x1 : Int32} {x2 : Int32} {σ : St} {σ2 : St}  (h1 : x0 < 24 ∧ kls x0 = 5)
    (hy : Er d 83 (0, ent 83 [.ref x0, .int (15 : Int32), .int (14 : Int32)], [], σ) (.inl none, σ2, 0))
    (k : Er (d + 1) 82 (49, [some (.ref x0), some (.int x1), some (.int x2), none], [], σ2) q) :
    Er (d + 1) 82 (41, [some (.ref x0), some (.int x1), some (.int x2), none], [], σ) q := Er.sT (c2 := (42, [some (.ref x0), some (.int x1), some (.int x2), none], [.ref x0], σ)) r82_41 rfl rfl <| Er.sT (c2 := (44, [some (.ref x0), some (.int x1), some (.int x2), none], [.int (15 : Int32), .ref x0], σ)) r82_42 rfl rfl <| Er.sT (c2 := (46, [some (.ref x0), some (.int x1), some (.int x2), none], [.int (14 : Int32), .int (15 : Int32), .ref x0], σ)) r82_44 rfl rfl <| (Er.call (vs := [.ref x0, .int (15 : Int32), .int (14 : Int32)]) (rest := []) r82_46 rfl rfl (Nat.le_of_ble_eq_true rfl) (Nat.le_of_ble_eq_true rfl) (fun _ => ⟨_, _, rfl, h1⟩) hy k)
theorem b82_49 {d : Nat} {x0 : Nat} {x1 : Int32} {x2 : Int32} {σ : St}  :
    Er (d + 1) 82 (49, [some (.ref x0), some (.int x1), some (.int x2), none], [], σ) (.inl none, σ, 0) := (Er.ret r82_49 rfl ⟨rfl, rfl, rfl⟩)
theorem b82_50 {d : Nat} {q : Rs} {x0 : Nat} {x1 : Int32} {x2 : Int32} {σ : St} 
    (k : Er (d + 1) 82 (52, [some (.ref x0), some (.int x1), some (.int x2), some (.int (0 : Int32))], [], σ) q) :
    Er (d + 1) 82 (50, [some (.ref x0), some (.int x1), some (.int x2), none], [], σ) q := Er.sT (c2 := (51, [some (.ref x0), some (.int x1), some (.int x2), none], [.int (0 : Int32)], σ)) r82_50 rfl rfl <| Er.sT (c2 := (52, [some (.ref x0), some (.int x1), some (.int x2), some (.int (0 : Int32))], [], σ)) r82_51 rfl rfl <| k
theorem b82_52 {d : Nat} {q : Rs} {x0 : Nat} {x1 : Int32} {x2 : Int32} {x3 : Int32} {σ : St} {σ2 : St} {r : Int32} (h1 : x0 < 24 ∧ kls x0 = 5)
    (hy : Er d 84 (0, ent 84 [.ref x0, .int (14 : Int32)], [], σ) (.inl (some (.int r)), σ2, 0))
    (k : Er (d + 1) 82 (58, [some (.ref x0), some (.int x1), some (.int x2), some (.int x3)], [.int r], σ2) q) :
    Er (d + 1) 82 (52, [some (.ref x0), some (.int x1), some (.int x2), some (.int x3)], [], σ) q := Er.sT (c2 := (53, [some (.ref x0), some (.int x1), some (.int x2), some (.int x3)], [.ref x0], σ)) r82_52 rfl rfl <| Er.sT (c2 := (55, [some (.ref x0), some (.int x1), some (.int x2), some (.int x3)], [.int (14 : Int32), .ref x0], σ)) r82_53 rfl rfl <| (Er.call (vs := [.ref x0, .int (14 : Int32)]) (rest := []) r82_55 rfl rfl (Nat.le_of_ble_eq_true rfl) (Nat.le_of_ble_eq_true rfl) (fun _ => ⟨_, _, rfl, h1⟩) hy k)
theorem b82_58 {d : Nat} {q : Rs} {x0 : Nat} {x1 : Int32} {x2 : Int32} {x3 : Int32} {s0 : Int32} {σ : St} 
    (kt : s0 = (0 : Int32) → Er (d + 1) 82 (88, [some (.ref x0), some (.int x1), some (.int x2), some (.int x3)], [], σ) q)
    (kf : ¬ s0 = (0 : Int32) → Er (d + 1) 82 (61, [some (.ref x0), some (.int x1), some (.int x2), some (.int x3)], [], σ) q) :
    Er (d + 1) 82 (58, [some (.ref x0), some (.int x1), some (.int x2), some (.int x3)], [.int s0], σ) q := Er.sT (c2 := (brn .eq s0 (0 : Int32) 88 61, [some (.ref x0), some (.int x1), some (.int x2), some (.int x3)], [], σ)) r82_58 rfl rfl <| (br_eq kt kf)
theorem b82_61 {d : Nat} {q : Rs} {x0 : Nat} {x1 : Int32} {x2 : Int32} {x3 : Int32} {σ : St} {σ2 : St} {r : Int32} (h1 : x0 < 24 ∧ kls x0 = 5)
    (hy : Er d 84 (0, ent 84 [.ref x0, .int (15 : Int32)], [], σ) (.inl (some (.int r)), σ2, 0))
    (k : Er (d + 1) 82 (67, [some (.ref x0), some (.int x1), some (.int x2), some (.int x3)], [.int r], σ2) q) :
    Er (d + 1) 82 (61, [some (.ref x0), some (.int x1), some (.int x2), some (.int x3)], [], σ) q := Er.sT (c2 := (62, [some (.ref x0), some (.int x1), some (.int x2), some (.int x3)], [.ref x0], σ)) r82_61 rfl rfl <| Er.sT (c2 := (64, [some (.ref x0), some (.int x1), some (.int x2), some (.int x3)], [.int (15 : Int32), .ref x0], σ)) r82_62 rfl rfl <| (Er.call (vs := [.ref x0, .int (15 : Int32)]) (rest := []) r82_64 rfl rfl (Nat.le_of_ble_eq_true rfl) (Nat.le_of_ble_eq_true rfl) (fun _ => ⟨_, _, rfl, h1⟩) hy k)
theorem b82_67 {d : Nat} {q : Rs} {x0 : Nat} {x1 : Int32} {x2 : Int32} {x3 : Int32} {s0 : Int32} {σ : St} 
    (kt : s0 = (0 : Int32) → Er (d + 1) 82 (88, [some (.ref x0), some (.int x1), some (.int x2), some (.int x3)], [], σ) q)
    (kf : ¬ s0 = (0 : Int32) → Er (d + 1) 82 (70, [some (.ref x0), some (.int x1), some (.int x2), some (.int x3)], [], σ) q) :
    Er (d + 1) 82 (67, [some (.ref x0), some (.int x1), some (.int x2), some (.int x3)], [.int s0], σ) q := Er.sT (c2 := (brn .eq s0 (0 : Int32) 88 70, [some (.ref x0), some (.int x1), some (.int x2), some (.int x3)], [], σ)) r82_67 rfl rfl <| (br_eq kt kf)
theorem b82_70 {d : Nat} {q : Rs} {x0 : Nat} {x1 : Int32} {x2 : Int32} {x3 : Int32} {σ : St} {σ2 : St}  (h1 : x0 < 24 ∧ kls x0 = 5)
    (hy : Er d 85 (0, ent 85 [.ref x0, .int (14 : Int32)], [], σ) (.inl none, σ2, 0))
    (k : Er (d + 1) 82 (76, [some (.ref x0), some (.int x1), some (.int x2), some (.int x3)], [], σ2) q) :
    Er (d + 1) 82 (70, [some (.ref x0), some (.int x1), some (.int x2), some (.int x3)], [], σ) q := Er.sT (c2 := (71, [some (.ref x0), some (.int x1), some (.int x2), some (.int x3)], [.ref x0], σ)) r82_70 rfl rfl <| Er.sT (c2 := (73, [some (.ref x0), some (.int x1), some (.int x2), some (.int x3)], [.int (14 : Int32), .ref x0], σ)) r82_71 rfl rfl <| (Er.call (vs := [.ref x0, .int (14 : Int32)]) (rest := []) r82_73 rfl rfl (Nat.le_of_ble_eq_true rfl) (Nat.le_of_ble_eq_true rfl) (fun _ => ⟨_, _, rfl, h1⟩) hy k)
theorem b82_76 {d : Nat} {q : Rs} {x0 : Nat} {x1 : Int32} {x2 : Int32} {x3 : Int32} {σ : St} {σ2 : St}  (h1 : x0 < 24 ∧ kls x0 = 5)
    (hy : Er d 85 (0, ent 85 [.ref x0, .int (15 : Int32)], [], σ) (.inl none, σ2, 0))
    (k : Er (d + 1) 82 (82, [some (.ref x0), some (.int x1), some (.int x2), some (.int x3)], [], σ2) q) :
    Er (d + 1) 82 (76, [some (.ref x0), some (.int x1), some (.int x2), some (.int x3)], [], σ) q := Er.sT (c2 := (77, [some (.ref x0), some (.int x1), some (.int x2), some (.int x3)], [.ref x0], σ)) r82_76 rfl rfl <| Er.sT (c2 := (79, [some (.ref x0), some (.int x1), some (.int x2), some (.int x3)], [.int (15 : Int32), .ref x0], σ)) r82_77 rfl rfl <| (Er.call (vs := [.ref x0, .int (15 : Int32)]) (rest := []) r82_79 rfl rfl (Nat.le_of_ble_eq_true rfl) (Nat.le_of_ble_eq_true rfl) (fun _ => ⟨_, _, rfl, h1⟩) hy k)
theorem b82_82 {d : Nat} {q : Rs} {x0 : Nat} {x1 : Int32} {x2 : Int32} {x3 : Int32} {σ : St} 
    (k : Er (d + 1) 82 (52, [some (.ref x0), some (.int x1), some (.int x2), some (.int (x3 + (1 : Int32)))], [], σ) q) :
    Er (d + 1) 82 (82, [some (.ref x0), some (.int x1), some (.int x2), some (.int x3)], [], σ) q := Er.sT (c2 := (85, [some (.ref x0), some (.int x1), some (.int x2), some (.int (x3 + (1 : Int32)))], [], σ)) r82_82 rfl rfl <| Er.sT (c2 := (52, [some (.ref x0), some (.int x1), some (.int x2), some (.int (x3 + (1 : Int32)))], [], σ)) r82_85 rfl rfl <| k
theorem b82_88 {d : Nat} {q : Rs} {x0 : Nat} {x1 : Int32} {x2 : Int32} {x3 : Int32} {σ : St} {σ2 : St} {r : Int32} (h1 : x0 < 24 ∧ kls x0 = 5)
    (hy : Er d 81 (0, ent 81 [.ref x0, .int (15 : Int32)], [], σ) (.inl (some (.int r)), σ2, 0))
    (k : Er (d + 1) 82 (94, [some (.ref x0), some (.int x1), some (.int x2), some (.int x3)], [.int r], σ2) q) :
    Er (d + 1) 82 (88, [some (.ref x0), some (.int x1), some (.int x2), some (.int x3)], [], σ) q := Er.sT (c2 := (89, [some (.ref x0), some (.int x1), some (.int x2), some (.int x3)], [.ref x0], σ)) r82_88 rfl rfl <| Er.sT (c2 := (91, [some (.ref x0), some (.int x1), some (.int x2), some (.int x3)], [.int (15 : Int32), .ref x0], σ)) r82_89 rfl rfl <| (Er.call (vs := [.ref x0, .int (15 : Int32)]) (rest := []) r82_91 rfl rfl (Nat.le_of_ble_eq_true rfl) (Nat.le_of_ble_eq_true rfl) (fun _ => ⟨_, _, rfl, h1⟩) hy k)
theorem b82_94 {d : Nat} {q : Rs} {x0 : Nat} {x1 : Int32} {x2 : Int32} {x3 : Int32} {s0 : Int32} {σ : St} 
    (kt : ¬ s0 = (0 : Int32) → Er (d + 1) 82 (163, [some (.ref x0), some (.int x1), some (.int x2), some (.int x3)], [], σ) q)
    (kf : s0 = (0 : Int32) → Er (d + 1) 82 (97, [some (.ref x0), some (.int x1), some (.int x2), some (.int x3)], [], σ) q) :
    Er (d + 1) 82 (94, [some (.ref x0), some (.int x1), some (.int x2), some (.int x3)], [.int s0], σ) q := Er.sT (c2 := (brn .ne s0 (0 : Int32) 163 97, [some (.ref x0), some (.int x1), some (.int x2), some (.int x3)], [], σ)) r82_94 rfl rfl <| (br_ne kt kf)
theorem b82_97 {d : Nat} {q : Rs} {x0 : Nat} {x1 : Int32} {x2 : Int32} {x3 : Int32} {σ : St} {σ2 : St} {r : Int32} (h1 : x0 < 24 ∧ kls x0 = 5)
    (hy : Er d 84 (0, ent 84 [.ref x0, .int (14 : Int32)], [], σ) (.inl (some (.int r)), σ2, 0))
    (k : Er (d + 1) 82 (103, [some (.ref x0), some (.int x1), some (.int x2), some (.int x3)], [.int r], σ2) q) :
    Er (d + 1) 82 (97, [some (.ref x0), some (.int x1), some (.int x2), some (.int x3)], [], σ) q := Er.sT (c2 := (98, [some (.ref x0), some (.int x1), some (.int x2), some (.int x3)], [.ref x0], σ)) r82_97 rfl rfl <| Er.sT (c2 := (100, [some (.ref x0), some (.int x1), some (.int x2), some (.int x3)], [.int (14 : Int32), .ref x0], σ)) r82_98 rfl rfl <| (Er.call (vs := [.ref x0, .int (14 : Int32)]) (rest := []) r82_100 rfl rfl (Nat.le_of_ble_eq_true rfl) (Nat.le_of_ble_eq_true rfl) (fun _ => ⟨_, _, rfl, h1⟩) hy k)
theorem b82_103 {d : Nat} {q : Rs} {x0 : Nat} {x1 : Int32} {x2 : Int32} {x3 : Int32} {s0 : Int32} {σ : St} 
    (kt : s0 = (0 : Int32) → Er (d + 1) 82 (115, [some (.ref x0), some (.int x1), some (.int x2), some (.int x3)], [], σ) q)
    (kf : ¬ s0 = (0 : Int32) → Er (d + 1) 82 (106, [some (.ref x0), some (.int x1), some (.int x2), some (.int x3)], [], σ) q) :
    Er (d + 1) 82 (103, [some (.ref x0), some (.int x1), some (.int x2), some (.int x3)], [.int s0], σ) q := Er.sT (c2 := (brn .eq s0 (0 : Int32) 115 106, [some (.ref x0), some (.int x1), some (.int x2), some (.int x3)], [], σ)) r82_103 rfl rfl <| (br_eq kt kf)
theorem b82_106 {d : Nat} {q : Rs} {x0 : Nat} {x1 : Int32} {x2 : Int32} {x3 : Int32} {σ : St} {σ2 : St}  (h1 : x0 < 24 ∧ kls x0 = 5)
    (hy : Er d 85 (0, ent 85 [.ref x0, .int (14 : Int32)], [], σ) (.inl none, σ2, 0))
    (k : Er (d + 1) 82 (112, [some (.ref x0), some (.int x1), some (.int x2), some (.int x3)], [], σ2) q) :
    Er (d + 1) 82 (106, [some (.ref x0), some (.int x1), some (.int x2), some (.int x3)], [], σ) q := Er.sT (c2 := (107, [some (.ref x0), some (.int x1), some (.int x2), some (.int x3)], [.ref x0], σ)) r82_106 rfl rfl <| Er.sT (c2 := (109, [some (.ref x0), some (.int x1), some (.int x2), some (.int x3)], [.int (14 : Int32), .ref x0], σ)) r82_107 rfl rfl <| (Er.call (vs := [.ref x0, .int (14 : Int32)]) (rest := []) r82_109 rfl rfl (Nat.le_of_ble_eq_true rfl) (Nat.le_of_ble_eq_true rfl) (fun _ => ⟨_, _, rfl, h1⟩) hy k)
theorem b82_112 {d : Nat} {q : Rs} {x0 : Nat} {x1 : Int32} {x2 : Int32} {x3 : Int32} {σ : St} 
    (k : Er (d + 1) 82 (97, [some (.ref x0), some (.int x1), some (.int x2), some (.int x3)], [], σ) q) :
    Er (d + 1) 82 (112, [some (.ref x0), some (.int x1), some (.int x2), some (.int x3)], [], σ) q := Er.sT (c2 := (97, [some (.ref x0), some (.int x1), some (.int x2), some (.int x3)], [], σ)) r82_112 rfl rfl <| k
theorem b82_115 {d : Nat} {q : Rs} {x0 : Nat} {x1 : Int32} {x2 : Int32} {x3 : Int32} {σ : St} {σ2 : St} {r : Int32} (h1 : x0 < 24 ∧ kls x0 = 5)
    (hy : Er d 84 (0, ent 84 [.ref x0, .int (15 : Int32)], [], σ) (.inl (some (.int r)), σ2, 0))
    (k : Er (d + 1) 82 (121, [some (.ref x0), some (.int x1), some (.int x2), some (.int x3)], [.int r], σ2) q) :
    Er (d + 1) 82 (115, [some (.ref x0), some (.int x1), some (.int x2), some (.int x3)], [], σ) q := Er.sT (c2 := (116, [some (.ref x0), some (.int x1), some (.int x2), some (.int x3)], [.ref x0], σ)) r82_115 rfl rfl <| Er.sT (c2 := (118, [some (.ref x0), some (.int x1), some (.int x2), some (.int x3)], [.int (15 : Int32), .ref x0], σ)) r82_116 rfl rfl <| (Er.call (vs := [.ref x0, .int (15 : Int32)]) (rest := []) r82_118 rfl rfl (Nat.le_of_ble_eq_true rfl) (Nat.le_of_ble_eq_true rfl) (fun _ => ⟨_, _, rfl, h1⟩) hy k)
theorem b82_121 {d : Nat} {q : Rs} {x0 : Nat} {x1 : Int32} {x2 : Int32} {x3 : Int32} {s0 : Int32} {σ : St} 
    (kt : s0 = (0 : Int32) → Er (d + 1) 82 (133, [some (.ref x0), some (.int x1), some (.int x2), some (.int x3)], [], σ) q)
    (kf : ¬ s0 = (0 : Int32) → Er (d + 1) 82 (124, [some (.ref x0), some (.int x1), some (.int x2), some (.int x3)], [], σ) q) :
    Er (d + 1) 82 (121, [some (.ref x0), some (.int x1), some (.int x2), some (.int x3)], [.int s0], σ) q := Er.sT (c2 := (brn .eq s0 (0 : Int32) 133 124, [some (.ref x0), some (.int x1), some (.int x2), some (.int x3)], [], σ)) r82_121 rfl rfl <| (br_eq kt kf)
theorem b82_124 {d : Nat} {q : Rs} {x0 : Nat} {x1 : Int32} {x2 : Int32} {x3 : Int32} {σ : St} {σ2 : St}  (h1 : x0 < 24 ∧ kls x0 = 5)
    (hy : Er d 85 (0, ent 85 [.ref x0, .int (15 : Int32)], [], σ) (.inl none, σ2, 0))
    (k : Er (d + 1) 82 (130, [some (.ref x0), some (.int x1), some (.int x2), some (.int x3)], [], σ2) q) :
    Er (d + 1) 82 (124, [some (.ref x0), some (.int x1), some (.int x2), some (.int x3)], [], σ) q := Er.sT (c2 := (125, [some (.ref x0), some (.int x1), some (.int x2), some (.int x3)], [.ref x0], σ)) r82_124 rfl rfl <| Er.sT (c2 := (127, [some (.ref x0), some (.int x1), some (.int x2), some (.int x3)], [.int (15 : Int32), .ref x0], σ)) r82_125 rfl rfl <| (Er.call (vs := [.ref x0, .int (15 : Int32)]) (rest := []) r82_127 rfl rfl (Nat.le_of_ble_eq_true rfl) (Nat.le_of_ble_eq_true rfl) (fun _ => ⟨_, _, rfl, h1⟩) hy k)
theorem b82_130 {d : Nat} {q : Rs} {x0 : Nat} {x1 : Int32} {x2 : Int32} {x3 : Int32} {σ : St} 
    (k : Er (d + 1) 82 (115, [some (.ref x0), some (.int x1), some (.int x2), some (.int x3)], [], σ) q) :
    Er (d + 1) 82 (130, [some (.ref x0), some (.int x1), some (.int x2), some (.int x3)], [], σ) q := Er.sT (c2 := (115, [some (.ref x0), some (.int x1), some (.int x2), some (.int x3)], [], σ)) r82_130 rfl rfl <| k
theorem b82_133 {d : Nat} {q : Rs} {x0 : Nat} {x1 : Int32} {x2 : Int32} {x3 : Int32} {σ : St} {σ2 : St} {r : Int32} (h1 : x0 < 24 ∧ kls x0 = 5)
    (hy : Er d 86 (0, ent 86 [.ref x0, .int (14 : Int32), .int (15 : Int32)], [], σ) (.inl (some (.int r)), σ2, 0))
    (k : Er (d + 1) 82 (141, [some (.ref x0), some (.int x1), some (.int x2), some (.int x3)], [.int r], σ2) q) :
    Er (d + 1) 82 (133, [some (.ref x0), some (.int x1), some (.int x2), some (.int x3)], [], σ) q := Er.sT (c2 := (134, [some (.ref x0), some (.int x1), some (.int x2), some (.int x3)], [.ref x0], σ)) r82_133 rfl rfl <| Er.sT (c2 := (136, [some (.ref x0), some (.int x1), some (.int x2), some (.int x3)], [.int (14 : Int32), .ref x0], σ)) r82_134 rfl rfl <| Er.sT (c2 := (138, [some (.ref x0), some (.int x1), some (.int x2), some (.int x3)], [.int (15 : Int32), .int (14 : Int32), .ref x0], σ)) r82_136 rfl rfl <| (Er.call (vs := [.ref x0, .int (14 : Int32), .int (15 : Int32)]) (rest := []) r82_138 rfl rfl (Nat.le_of_ble_eq_true rfl) (Nat.le_of_ble_eq_true rfl) (fun _ => ⟨_, _, rfl, h1⟩) hy k)
theorem b82_141 {d : Nat} {q : Rs} {x0 : Nat} {x1 : Int32} {x2 : Int32} {x3 : Int32} {s0 : Int32} {σ : St} 
    (kt : s0 ≤ (0 : Int32) → Er (d + 1) 82 (152, [some (.ref x0), some (.int x1), some (.int x2), some (.int x3)], [], σ) q)
    (kf : ¬ s0 ≤ (0 : Int32) → Er (d + 1) 82 (144, [some (.ref x0), some (.int x1), some (.int x2), some (.int x3)], [], σ) q) :
    Er (d + 1) 82 (141, [some (.ref x0), some (.int x1), some (.int x2), some (.int x3)], [.int s0], σ) q := Er.sT (c2 := (brn .le s0 (0 : Int32) 152 144, [some (.ref x0), some (.int x1), some (.int x2), some (.int x3)], [], σ)) r82_141 rfl rfl <| (br_le kt kf)
theorem b82_144 {d : Nat} {q : Rs} {x0 : Nat} {x1 : Int32} {x2 : Int32} {x3 : Int32} {σ : St} {σ2 : St}  (h1 : x0 < 24 ∧ kls x0 = 5)
    (hy : Er d 87 (0, ent 87 [.ref x0, .int (14 : Int32), .int (15 : Int32)], [], σ) (.inl none, σ2, 0))
    (k : Er (d + 1) 82 (152, [some (.ref x0), some (.int x1), some (.int x2), some (.int x3)], [], σ2) q) :
    Er (d + 1) 82 (144, [some (.ref x0), some (.int x1), some (.int x2), some (.int x3)], [], σ) q := Er.sT (c2 := (145, [some (.ref x0), some (.int x1), some (.int x2), some (.int x3)], [.ref x0], σ)) r82_144 rfl rfl <| Er.sT (c2 := (147, [some (.ref x0), some (.int x1), some (.int x2), some (.int x3)], [.int (14 : Int32), .ref x0], σ)) r82_145 rfl rfl <| Er.sT (c2 := (149, [some (.ref x0), some (.int x1), some (.int x2), some (.int x3)], [.int (15 : Int32), .int (14 : Int32), .ref x0], σ)) r82_147 rfl rfl <| (Er.call (vs := [.ref x0, .int (14 : Int32), .int (15 : Int32)]) (rest := []) r82_149 rfl rfl (Nat.le_of_ble_eq_true rfl) (Nat.le_of_ble_eq_true rfl) (fun _ => ⟨_, _, rfl, h1⟩) hy k)
theorem b82_152 {d : Nat} {q : Rs} {x0 : Nat} {x1 : Int32} {x2 : Int32} {x3 : Int32} {σ : St} {σ2 : St}  (h1 : x0 < 24 ∧ kls x0 = 5)
    (hy : Er d 88 (0, ent 88 [.ref x0, .int (15 : Int32), .int (14 : Int32)], [], σ) (.inl none, σ2, 0))
    (k : Er (d + 1) 82 (160, [some (.ref x0), some (.int x1), some (.int x2), some (.int x3)], [], σ2) q) :
    Er (d + 1) 82 (152, [some (.ref x0), some (.int x1), some (.int x2), some (.int x3)], [], σ) q := Er.sT (c2 := (153, [some (.ref x0), some (.int x1), some (.int x2), some (.int x3)], [.ref x0], σ)) r82_152 rfl rfl <| Er.sT (c2 := (155, [some (.ref x0), some (.int x1), some (.int x2), some (.int x3)], [.int (15 : Int32), .ref x0], σ)) r82_153 rfl rfl <| Er.sT (c2 := (157, [some (.ref x0), some (.int x1), some (.int x2), some (.int x3)], [.int (14 : Int32), .int (15 : Int32), .ref x0], σ)) r82_155 rfl rfl <| (Er.call (vs := [.ref x0, .int (15 : Int32), .int (14 : Int32)]) (rest := []) r82_157 rfl rfl (Nat.le_of_ble_eq_true rfl) (Nat.le_of_ble_eq_true rfl) (fun _ => ⟨_, _, rfl, h1⟩) hy k)
theorem b82_160 {d : Nat} {q : Rs} {x0 : Nat} {x1 : Int32} {x2 : Int32} {x3 : Int32} {σ : St} 
    (k : Er (d + 1) 82 (88, [some (.ref x0), some (.int x1), some (.int x2), some (.int x3)], [], σ) q) :
    Er (d + 1) 82 (160, [some (.ref x0), some (.int x1), some (.int x2), some (.int x3)], [], σ) q := Er.sT (c2 := (88, [some (.ref x0), some (.int x1), some (.int x2), some (.int x3)], [], σ)) r82_160 rfl rfl <| k
theorem b82_163 {d : Nat} {q : Rs} {x0 : Nat} {x1 : Int32} {x2 : Int32} {x3 : Int32} {σ : St} {σ2 : St}  (h1 : x0 < 24 ∧ kls x0 = 5)
    (hy : Er d 89 (0, ent 89 [.ref x0, .int (14 : Int32), .int x3], [], σ) (.inl none, σ2, 0))
    (k : Er (d + 1) 82 (170, [some (.ref x0), some (.int x1), some (.int x2), some (.int x3)], [], σ2) q) :
    Er (d + 1) 82 (163, [some (.ref x0), some (.int x1), some (.int x2), some (.int x3)], [], σ) q := Er.sT (c2 := (164, [some (.ref x0), some (.int x1), some (.int x2), some (.int x3)], [.ref x0], σ)) r82_163 rfl rfl <| Er.sT (c2 := (166, [some (.ref x0), some (.int x1), some (.int x2), some (.int x3)], [.int (14 : Int32), .ref x0], σ)) r82_164 rfl rfl <| Er.sT (c2 := (167, [some (.ref x0), some (.int x1), some (.int x2), some (.int x3)], [.int x3, .int (14 : Int32), .ref x0], σ)) r82_166 rfl rfl <| (Er.call (vs := [.ref x0, .int (14 : Int32), .int x3]) (rest := []) r82_167 rfl rfl (Nat.le_of_ble_eq_true rfl) (Nat.le_of_ble_eq_true rfl) (fun _ => ⟨_, _, rfl, h1⟩) hy k)
theorem b82_170 {d : Nat} {x0 : Nat} {x1 : Int32} {x2 : Int32} {x3 : Int32} {σ : St}  :
    Er (d + 1) 82 (170, [some (.ref x0), some (.int x1), some (.int x2), some (.int x3)], [], σ) (.inl none, σ, 0) := (Er.ret r82_170 rfl ⟨rfl, rfl, rfl⟩)
/-! NumberModelsModel.copy(II)V -/
theorem tab_83 : tab 83 = tb83_0 := rfl
theorem ch83_0 {j : Nat} {r : Row} (h : tb83_0[j]? = some r) : rowAt 83 r.1 = some r := row_mem 83 (by decide) (by rw [tab_83]; exact List.mem_of_getElem? h)
theorem r83_0 : rowAt 83 0 = some (r0 0 1 (.iconst 0)) := ch83_0 (j := 0) rfl
theorem r83_1 : rowAt 83 1 = some (ra 1 2 (.istore_n 3) 3 0 0) := ch83_0 (j := 1) rfl
theorem r83_2 : rowAt 83 2 = some (ra 2 3 (.iload_n 3) 3 0 0) := ch83_0 (j := 2) rfl
theorem r83_3 : rowAt 83 3 = some (3, 5, .bipush 64, 0, 0, 0, 64, 0) := ch83_0 (j := 3) rfl
theorem r83_5 : rowAt 83 5 = some (ra 5 8 (.if_icmp .ge 31) 36 0 0) := ch83_0 (j := 4) rfl
theorem r83_8 : rowAt 83 8 = some (r0 8 9 (.aload_n 0)) := ch83_0 (j := 5) rfl
theorem r83_9 : rowAt 83 9 = some (ra 9 12 (.getfield 17) 4 5 877) := ch83_0 (j := 6) rfl
theorem r83_12 : rowAt 83 12 = some (12, 14, .bipush 64, 0, 0, 0, 64, 0) := ch83_0 (j := 7) rfl
theorem r83_14 : rowAt 83 14 = some (ra 14 15 (.iload_n 2) 2 0 0) := ch83_0 (j := 8) rfl
theorem r83_15 : rowAt 83 15 = some (r0 15 16 (.imul)) := ch83_0 (j := 9) rfl
theorem r83_16 : rowAt 83 16 = some (ra 16 17 (.iload_n 3) 3 0 0) := ch83_0 (j := 10) rfl
theorem r83_17 : rowAt 83 17 = some (r0 17 18 (.iadd)) := ch83_0 (j := 11) rfl
theorem r83_18 : rowAt 83 18 = some (r0 18 19 (.aload_n 0)) := ch83_0 (j := 12) rfl
theorem r83_19 : rowAt 83 19 = some (ra 19 22 (.getfield 17) 4 5 877) := ch83_0 (j := 13) rfl
theorem r83_22 : rowAt 83 22 = some (22, 24, .bipush 64, 0, 0, 0, 64, 0) := ch83_0 (j := 14) rfl
theorem r83_24 : rowAt 83 24 = some (ra 24 25 (.iload_n 1) 1 0 0) := ch83_0 (j := 15) rfl
theorem r83_25 : rowAt 83 25 = some (r0 25 26 (.imul)) := ch83_0 (j := 16) rfl
theorem r83_26 : rowAt 83 26 = some (ra 26 27 (.iload_n 3) 3 0 0) := ch83_0 (j := 17) rfl
theorem r83_27 : rowAt 83 27 = some (r0 27 28 (.iadd)) := ch83_0 (j := 18) rfl
theorem r83_28 : rowAt 83 28 = some (r0 28 29 (.laload)) := ch83_0 (j := 19) rfl
theorem r83_29 : rowAt 83 29 = some (r0 29 30 (.lastore)) := ch83_0 (j := 20) rfl
theorem r83_30 : rowAt 83 30 = some (30, 33, .iinc 3 1, 3, 0, 0, 1, 0) := ch83_0 (j := 21) rfl
theorem r83_33 : rowAt 83 33 = some (ra 33 36 (.goto (-31)) 2 0 0) := ch83_0 (j := 22) rfl
theorem r83_36 : rowAt 83 36 = some (r0 36 37 (.return_)) := ch83_0 (j := 23) rfl
theorem b83_0 {d : Nat} {q : Rs} {x0 : Nat} {x1 : Int32} {x2 : Int32} {σ : St} 
    (k : Er (d + 1) 83 (2, [some (.ref x0), some (.int x1), some (.int x2), some (.int (0 : Int32))], [], σ) q) :
    Er (d + 1) 83 (0, [some (.ref x0), some (.int x1), some (.int x2), none], [], σ) q := Er.sT (c2 := (1, [some (.ref x0), some (.int x1), some (.int x2), none], [.int (0 : Int32)], σ)) r83_0 rfl rfl <| Er.sT (c2 := (2, [some (.ref x0), some (.int x1), some (.int x2), some (.int (0 : Int32))], [], σ)) r83_1 rfl rfl <| k
theorem b83_2 {d : Nat} {q : Rs} {x0 : Nat} {x1 : Int32} {x2 : Int32} {x3 : Int32} {σ : St} 
    (kt : (64 : Int32) ≤ x3 → Er (d + 1) 83 (36, [some (.ref x0), some (.int x1), some (.int x2), some (.int x3)], [], σ) q)
    (kf : ¬ (64 : Int32) ≤ x3 → Er (d + 1) 83 (8, [some (.ref x0), some (.int x1), some (.int x2), some (.int x3)], [], σ) q) :
    Er (d + 1) 83 (2, [some (.ref x0), some (.int x1), some (.int x2), some (.int x3)], [], σ) q := Er.sT (c2 := (3, [some (.ref x0), some (.int x1), some (.int x2), some (.int x3)], [.int x3], σ)) r83_2 rfl rfl <| Er.sT (c2 := (5, [some (.ref x0), some (.int x1), some (.int x2), some (.int x3)], [.int (64 : Int32), .int x3], σ)) r83_3 rfl rfl <| Er.sT (c2 := (brn .ge x3 (64 : Int32) 36 8, [some (.ref x0), some (.int x1), some (.int x2), some (.int x3)], [], σ)) r83_5 rfl rfl <| (br_ge kt kf)
theorem b83_8 {d : Nat} {q : Rs} {x0 : Nat} {x1 : Int32} {x2 : Int32} {x3 : Int32} {σ : St} (h1 : x0 < 24 ∧ kls x0 = 5) (h2 : isL (fr x0 4) ∧ vp_in (((64 : Int32) * x1) + x3) (ale (fr x0 4))) (h3 : isL (fr x0 4) ∧ vp_in (((64 : Int32) * x2) + x3) (ale (fr x0 4)))
    (k : Er (d + 1) 83 (2, [some (.ref x0), some (.int x1), some (.int x2), some (.int (x3 + (1 : Int32)))], [], (sal σ (fr x0 4) (((64 : Int32) * x2) + x3).toNatClampNeg (gal σ (fr x0 4) (((64 : Int32) * x1) + x3).toNatClampNeg))) q) :
    Er (d + 1) 83 (8, [some (.ref x0), some (.int x1), some (.int x2), some (.int x3)], [], σ) q := Er.sT (c2 := (9, [some (.ref x0), some (.int x1), some (.int x2), some (.int x3)], [.ref x0], σ)) r83_8 rfl rfl <| Er.st (P := (x0 < 24 ∧ kls x0 = 5)) (c2 := (12, [some (.ref x0), some (.int x1), some (.int x2), some (.int x3)], [.ref (fr x0 4)], σ)) r83_9 rfl rfl h1 <| Er.sT (c2 := (14, [some (.ref x0), some (.int x1), some (.int x2), some (.int x3)], [.int (64 : Int32), .ref (fr x0 4)], σ)) r83_12 rfl rfl <| Er.sT (c2 := (15, [some (.ref x0), some (.int x1), some (.int x2), some (.int x3)], [.int x2, .int (64 : Int32), .ref (fr x0 4)], σ)) r83_14 rfl rfl <| Er.sT (c2 := (16, [some (.ref x0), some (.int x1), some (.int x2), some (.int x3)], [.int ((64 : Int32) * x2), .ref (fr x0 4)], σ)) r83_15 rfl rfl <| Er.sT (c2 := (17, [some (.ref x0), some (.int x1), some (.int x2), some (.int x3)], [.int x3, .int ((64 : Int32) * x2), .ref (fr x0 4)], σ)) r83_16 rfl rfl <| Er.sT (c2 := (18, [some (.ref x0), some (.int x1), some (.int x2), some (.int x3)], [.int (((64 : Int32) * x2) + x3), .ref (fr x0 4)], σ)) r83_17 rfl rfl <| Er.sT (c2 := (19, [some (.ref x0), some (.int x1), some (.int x2), some (.int x3)], [.ref x0, .int (((64 : Int32) * x2) + x3), .ref (fr x0 4)], σ)) r83_18 rfl rfl <| Er.st (P := (x0 < 24 ∧ kls x0 = 5)) (c2 := (22, [some (.ref x0), some (.int x1), some (.int x2), some (.int x3)], [.ref (fr x0 4), .int (((64 : Int32) * x2) + x3), .ref (fr x0 4)], σ)) r83_19 rfl rfl h1 <| Er.sT (c2 := (24, [some (.ref x0), some (.int x1), some (.int x2), some (.int x3)], [.int (64 : Int32), .ref (fr x0 4), .int (((64 : Int32) * x2) + x3), .ref (fr x0 4)], σ)) r83_22 rfl rfl <| Er.sT (c2 := (25, [some (.ref x0), some (.int x1), some (.int x2), some (.int x3)], [.int x1, .int (64 : Int32), .ref (fr x0 4), .int (((64 : Int32) * x2) + x3), .ref (fr x0 4)], σ)) r83_24 rfl rfl <| Er.sT (c2 := (26, [some (.ref x0), some (.int x1), some (.int x2), some (.int x3)], [.int ((64 : Int32) * x1), .ref (fr x0 4), .int (((64 : Int32) * x2) + x3), .ref (fr x0 4)], σ)) r83_25 rfl rfl <| Er.sT (c2 := (27, [some (.ref x0), some (.int x1), some (.int x2), some (.int x3)], [.int x3, .int ((64 : Int32) * x1), .ref (fr x0 4), .int (((64 : Int32) * x2) + x3), .ref (fr x0 4)], σ)) r83_26 rfl rfl <| Er.sT (c2 := (28, [some (.ref x0), some (.int x1), some (.int x2), some (.int x3)], [.int (((64 : Int32) * x1) + x3), .ref (fr x0 4), .int (((64 : Int32) * x2) + x3), .ref (fr x0 4)], σ)) r83_27 rfl rfl <| Er.st (P := (isL (fr x0 4) ∧ vp_in (((64 : Int32) * x1) + x3) (ale (fr x0 4)))) (c2 := (29, [some (.ref x0), some (.int x1), some (.int x2), some (.int x3)], [.long (gal σ (fr x0 4) (((64 : Int32) * x1) + x3).toNatClampNeg), .int (((64 : Int32) * x2) + x3), .ref (fr x0 4)], σ)) r83_28 rfl rfl h2 <| Er.st (P := (isL (fr x0 4) ∧ vp_in (((64 : Int32) * x2) + x3) (ale (fr x0 4)))) (c2 := (30, [some (.ref x0), some (.int x1), some (.int x2), some (.int x3)], [], (sal σ (fr x0 4) (((64 : Int32) * x2) + x3).toNatClampNeg (gal σ (fr x0 4) (((64 : Int32) * x1) + x3).toNatClampNeg)))) r83_29 rfl rfl h3 <| Er.sT (c2 := (33, [some (.ref x0), some (.int x1), some (.int x2), some (.int (x3 + (1 : Int32)))], [], (sal σ (fr x0 4) (((64 : Int32) * x2) + x3).toNatClampNeg (gal σ (fr x0 4) (((64 : Int32) * x1) + x3).toNatClampNeg)))) r83_30 rfl rfl <| Er.sT (c2 := (2, [some (.ref x0), some (.int x1), some (.int x2), some (.int (x3 + (1 : Int32)))], [], (sal σ (fr x0 4) (((64 : Int32) * x2) + x3).toNatClampNeg (gal σ (fr x0 4) (((64 : Int32) * x1) + x3).toNatClampNeg)))) r83_33 rfl rfl <| k
theorem b83_36 {d : Nat} {x0 : Nat} {x1 : Int32} {x2 : Int32} {x3 : Int32} {σ : St}  :
    Er (d + 1) 83 (36, [some (.ref x0), some (.int x1), some (.int x2), some (.int x3)], [], σ) (.inl none, σ, 0) := (Er.ret r83_36 rfl ⟨rfl, rfl, rfl⟩)
/-! NumberModelsModel.isEven(I)Z -/
theorem tab_84 : tab 84 = tb84_0 := rfl
theorem ch84_0 {j : Nat} {r : Row} (h : tb84_0[j]? = some r) : rowAt 84 r.1 = some r := row_mem 84 (by decide) (by rw [tab_84]; exact List.mem_of_getElem? h)
theorem r84_0 : rowAt 84 0 = some (r0 0 1 (.aload_n 0)) := ch84_0 (j := 0) rfl
theorem r84_1 : rowAt 84 1 = some (ra 1 4 (.getfield 17) 4 5 877) := ch84_0 (j := 1) rfl
theorem r84_4 : rowAt 84 4 = some (4, 6, .bipush 64, 0, 0, 0, 64, 0) := ch84_0 (j := 2) rfl
theorem r84_6 : rowAt 84 6 = some (ra 6 7 (.iload_n 1) 1 0 0) := ch84_0 (j := 3) rfl
theorem r84_7 : rowAt 84 7 = some (r0 7 8 (.imul)) := ch84_0 (j := 4) rfl
theorem r84_8 : rowAt 84 8 = some (r0 8 9 (.laload)) := ch84_0 (j := 5) rfl
theorem r84_9 : rowAt 84 9 = some (9, 10, .lconst 1, 0, 0, 0, 0, 1) := ch84_0 (j := 6) rfl
theorem r84_10 : rowAt 84 10 = some (r0 10 11 (.land)) := ch84_0 (j := 7) rfl
theorem r84_11 : rowAt 84 11 = some (r0 11 12 (.lconst 0)) := ch84_0 (j := 8) rfl
theorem r84_12 : rowAt 84 12 = some (r0 12 13 (.lcmp)) := ch84_0 (j := 9) rfl
theorem r84_13 : rowAt 84 13 = some (ra 13 16 (.ifCond .ne 7) 20 0 0) := ch84_0 (j := 10) rfl
theorem r84_16 : rowAt 84 16 = some (16, 17, .iconst 1, 0, 0, 0, 1, 0) := ch84_0 (j := 11) rfl
theorem r84_17 : rowAt 84 17 = some (ra 17 20 (.goto 4) 21 0 0) := ch84_0 (j := 12) rfl
theorem r84_20 : rowAt 84 20 = some (r0 20 21 (.iconst 0)) := ch84_0 (j := 13) rfl
theorem r84_21 : rowAt 84 21 = some (r0 21 22 (.ireturn)) := ch84_0 (j := 14) rfl
theorem b84_0 {d : Nat} {q : Rs} {x0 : Nat} {x1 : Int32} {σ : St} (h1 : x0 < 24 ∧ kls x0 = 5) (h2 : isL (fr x0 4) ∧ vp_in ((64 : Int32) * x1) (ale (fr x0 4)))
    (kt : ¬ ((gal σ (fr x0 4) ((64 : Int32) * x1).toNatClampNeg) &&& (1 : Int64)) = (0 : Int64) → Er (d + 1) 84 (20, [some (.ref x0), some (.int x1)], [], σ) q)
    (kf : ((gal σ (fr x0 4) ((64 : Int32) * x1).toNatClampNeg) &&& (1 : Int64)) = (0 : Int64) → Er (d + 1) 84 (16, [some (.ref x0), some (.int x1)], [], σ) q) :
    Er (d + 1) 84 (0, [some (.ref x0), some (.int x1)], [], σ) q := Er.sT (c2 := (1, [some (.ref x0), some (.int x1)], [.ref x0], σ)) r84_0 rfl rfl <| Er.st (P := (x0 < 24 ∧ kls x0 = 5)) (c2 := (4, [some (.ref x0), some (.int x1)], [.ref (fr x0 4)], σ)) r84_1 rfl rfl h1 <| Er.sT (c2 := (6, [some (.ref x0), some (.int x1)], [.int (64 : Int32), .ref (fr x0 4)], σ)) r84_4 rfl rfl <| Er.sT (c2 := (7, [some (.ref x0), some (.int x1)], [.int x1, .int (64 : Int32), .ref (fr x0 4)], σ)) r84_6 rfl rfl <| Er.sT (c2 := (8, [some (.ref x0), some (.int x1)], [.int ((64 : Int32) * x1), .ref (fr x0 4)], σ)) r84_7 rfl rfl <| Er.st (P := (isL (fr x0 4) ∧ vp_in ((64 : Int32) * x1) (ale (fr x0 4)))) (c2 := (9, [some (.ref x0), some (.int x1)], [.long (gal σ (fr x0 4) ((64 : Int32) * x1).toNatClampNeg)], σ)) r84_8 rfl rfl h2 <| Er.sT (c2 := (10, [some (.ref x0), some (.int x1)], [.long (1 : Int64), .long (gal σ (fr x0 4) ((64 : Int32) * x1).toNatClampNeg)], σ)) r84_9 rfl rfl <| Er.sT (c2 := (11, [some (.ref x0), some (.int x1)], [.long ((gal σ (fr x0 4) ((64 : Int32) * x1).toNatClampNeg) &&& (1 : Int64))], σ)) r84_10 rfl rfl <| Er.sT (c2 := (12, [some (.ref x0), some (.int x1)], [.long (0 : Int64), .long ((gal σ (fr x0 4) ((64 : Int32) * x1).toNatClampNeg) &&& (1 : Int64))], σ)) r84_11 rfl rfl <| Er.sT (c2 := (13, [some (.ref x0), some (.int x1)], [.int (lg_cmp ((gal σ (fr x0 4) ((64 : Int32) * x1).toNatClampNeg) &&& (1 : Int64)) (0 : Int64))], σ)) r84_12 rfl rfl <| Er.sT (c2 := (brn .ne (lg_cmp ((gal σ (fr x0 4) ((64 : Int32) * x1).toNatClampNeg) &&& (1 : Int64)) (0 : Int64)) (0 : Int32) 20 16, [some (.ref x0), some (.int x1)], [], σ)) r84_13 rfl rfl <| (bl_ne kt kf)
theorem b84_16 {d : Nat} {q : Rs} {x0 : Nat} {x1 : Int32} {σ : St} 
    (k : Er (d + 1) 84 (21, [some (.ref x0), some (.int x1)], [.int (1 : Int32)], σ) q) :
    Er (d + 1) 84 (16, [some (.ref x0), some (.int x1)], [], σ) q := Er.sT (c2 := (17, [some (.ref x0), some (.int x1)], [.int (1 : Int32)], σ)) r84_16 rfl rfl <| Er.sT (c2 := (21, [some (.ref x0), some (.int x1)], [.int (1 : Int32)], σ)) r84_17 rfl rfl <| k
theorem b84_20 {d : Nat} {q : Rs} {x0 : Nat} {x1 : Int32} {σ : St} 
    (k : Er (d + 1) 84 (21, [some (.ref x0), some (.int x1)], [.int (0 : Int32)], σ) q) :
    Er (d + 1) 84 (20, [some (.ref x0), some (.int x1)], [], σ) q := Er.sT (c2 := (21, [some (.ref x0), some (.int x1)], [.int (0 : Int32)], σ)) r84_20 rfl rfl <| k
theorem b84_21 {d : Nat} {x0 : Nat} {x1 : Int32} {s0 : Int32} {σ : St} (hz : narrow .boolean (.int s0) = .int s0) :
    Er (d + 1) 84 (21, [some (.ref x0), some (.int x1)], [.int s0], σ) (.inl (some (.int s0)), σ, 0) := (Er.ret r84_21 rfl ⟨_, _, rfl, rfl, hz, rfl⟩)
/-! NumberModelsModel.halve(I)V -/
theorem tab_85 : tab 85 = tb85_0 := rfl
theorem ch85_0 {j : Nat} {r : Row} (h : tb85_0[j]? = some r) : rowAt 85 r.1 = some r := row_mem 85 (by decide) (by rw [tab_85]; exact List.mem_of_getElem? h)
theorem r85_0 : rowAt 85 0 = some (r0 0 1 (.lconst 0)) := ch85_0 (j := 0) rfl
theorem r85_1 : rowAt 85 1 = some (ra 1 2 (.lstore_n 2) 2 0 0) := ch85_0 (j := 1) rfl
theorem r85_2 : rowAt 85 2 = some (2, 4, .bipush 63, 0, 0, 0, 63, 0) := ch85_0 (j := 2) rfl
theorem r85_4 : rowAt 85 4 = some (ra 4 6 (.istore 4) 4 0 0) := ch85_0 (j := 3) rfl
theorem r85_6 : rowAt 85 6 = some (ra 6 8 (.iload 4) 4 0 0) := ch85_0 (j := 4) rfl
theorem r85_8 : rowAt 85 8 = some (ra 8 11 (.ifCond .lt 49) 57 0 0) := ch85_0 (j := 5) rfl
theorem r85_11 : rowAt 85 11 = some (r0 11 12 (.aload_n 0)) := ch85_0 (j := 6) rfl
theorem r85_12 : rowAt 85 12 = some (ra 12 15 (.getfield 17) 4 5 877) := ch85_0 (j := 7) rfl
theorem r85_15 : rowAt 85 15 = some (15, 17, .bipush 64, 0, 0, 0, 64, 0) := ch85_0 (j := 8) rfl
theorem r85_17 : rowAt 85 17 = some (ra 17 18 (.iload_n 1) 1 0 0) := ch85_0 (j := 9) rfl
theorem r85_18 : rowAt 85 18 = some (r0 18 19 (.imul)) := ch85_0 (j := 10) rfl
theorem r85_19 : rowAt 85 19 = some (ra 19 21 (.iload 4) 4 0 0) := ch85_0 (j := 11) rfl
theorem r85_21 : rowAt 85 21 = some (r0 21 22 (.iadd)) := ch85_0 (j := 12) rfl
theorem r85_22 : rowAt 85 22 = some (r0 22 23 (.laload)) := ch85_0 (j := 13) rfl
theorem r85_23 : rowAt 85 23 = some (ra 23 25 (.lstore 5) 5 0 0) := ch85_0 (j := 14) rfl
theorem r85_25 : rowAt 85 25 = some (r0 25 26 (.aload_n 0)) := ch85_0 (j := 15) rfl
theorem r85_26 : rowAt 85 26 = some (ra 26 29 (.getfield 17) 4 5 877) := ch85_0 (j := 16) rfl
theorem r85_29 : rowAt 85 29 = some (29, 31, .bipush 64, 0, 0, 0, 64, 0) := ch85_0 (j := 17) rfl
theorem r85_31 : rowAt 85 31 = some (ra 31 32 (.iload_n 1) 1 0 0) := ch85_0 (j := 18) rfl
theorem r85_32 : rowAt 85 32 = some (r0 32 33 (.imul)) := ch85_0 (j := 19) rfl
theorem r85_33 : rowAt 85 33 = some (ra 33 35 (.iload 4) 4 0 0) := ch85_0 (j := 20) rfl
theorem r85_35 : rowAt 85 35 = some (r0 35 36 (.iadd)) := ch85_0 (j := 21) rfl
theorem r85_36 : rowAt 85 36 = some (ra 36 38 (.lload 5) 5 0 0) := ch85_0 (j := 22) rfl
theorem r85_38 : rowAt 85 38 = some (38, 39, .iconst 1, 0, 0, 0, 1, 0) := ch85_0 (j := 23) rfl
theorem r85_39 : rowAt 85 39 = some (r0 39 40 (.lshr)) := ch85_0 (j := 24) rfl
theorem r85_40 : rowAt 85 40 = some (ra 40 41 (.lload_n 2) 2 0 0) := ch85_0 (j := 25) rfl
theorem r85_41 : rowAt 85 41 = some (41, 43, .bipush 31, 0, 0, 0, 31, 0) := ch85_0 (j := 26) rfl
theorem r85_43 : rowAt 85 43 = some (r0 43 44 (.lshl)) := ch85_0 (j := 27) rfl
theorem r85_44 : rowAt 85 44 = some (r0 44 45 (.lor)) := ch85_0 (j := 28) rfl
theorem r85_45 : rowAt 85 45 = some (r0 45 46 (.lastore)) := ch85_0 (j := 29) rfl
theorem r85_46 : rowAt 85 46 = some (ra 46 48 (.lload 5) 5 0 0) := ch85_0 (j := 30) rfl
theorem r85_48 : rowAt 85 48 = some (48, 49, .lconst 1, 0, 0, 0, 0, 1) := ch85_0 (j := 31) rfl
theorem r85_49 : rowAt 85 49 = some (r0 49 50 (.land)) := ch85_0 (j := 32) rfl
theorem r85_50 : rowAt 85 50 = some (ra 50 51 (.lstore_n 2) 2 0 0) := ch85_0 (j := 33) rfl
theorem r85_51 : rowAt 85 51 = some (51, 54, .iinc 4 (-1), 4, 0, 0, (-1), 0) := ch85_0 (j := 34) rfl
theorem r85_54 : rowAt 85 54 = some (ra 54 57 (.goto (-48)) 6 0 0) := ch85_0 (j := 35) rfl
theorem r85_57 : rowAt 85 57 = some (r0 57 58 (.return_)) := ch85_0 (j := 36) rfl
theorem b85_0 {d : Nat} {q : Rs} {x0 : Nat} {x1 : Int32} {σ : St} 
    (k : Er (d + 1) 85 (6, [some (.ref x0), some (.int x1), some (.long (0 : Int64)), none, some (.int (63 : Int32)), none, none], [], σ) q) :
    Er (d + 1) 85 (0, [some (.ref x0), some (.int x1), none, none, none, none, none], [], σ) q := Er.sT (c2 := (1, [some (.ref x0), some (.int x1), none, none, none, none, none], [.long (0 : Int64)], σ)) r85_0 rfl rfl <| Er.sT (c2 := (2, [some (.ref x0), some (.int x1), some (.long (0 : Int64)), none, none, none, none], [], σ)) r85_1 rfl rfl <| Er.sT (c2 := (4, [some (.ref x0), some (.int x1), some (.long (0 : Int64)), none, none, none, none], [.int (63 : Int32)], σ)) r85_2 rfl rfl <| Er.sT (c2 := (6, [some (.ref x0), some (.int x1), some (.long (0 : Int64)), none, some (.int (63 : Int32)), none, none], [], σ)) r85_4 rfl rfl <| k
theorem b85_6 {d : Nat} {q : Rs} {x0 : Nat} {x1 : Int32} {x2 : Int64} {x4 : Int32} {o5 : Option Value} {o6 : Option Value} {σ : St} 
    (kt : x4 < (0 : Int32) → Er (d + 1) 85 (57, [some (.ref x0), some (.int x1), some (.long x2), none, some (.int x4), o5, o6], [], σ) q)
    (kf : ¬ x4 < (0 : Int32) → Er (d + 1) 85 (11, [some (.ref x0), some (.int x1), some (.long x2), none, some (.int x4), o5, o6], [], σ) q) :
    Er (d + 1) 85 (6, [some (.ref x0), some (.int x1), some (.long x2), none, some (.int x4), o5, o6], [], σ) q := Er.sT (c2 := (8, [some (.ref x0), some (.int x1), some (.long x2), none, some (.int x4), o5, o6], [.int x4], σ)) r85_6 rfl rfl <| Er.sT (c2 := (brn .lt x4 (0 : Int32) 57 11, [some (.ref x0), some (.int x1), some (.long x2), none, some (.int x4), o5, o6], [], σ)) r85_8 rfl rfl <| (br_lt kt kf)
theorem b85_11 {d : Nat} {q : Rs} {x0 : Nat} {x1 : Int32} {x2 : Int64} {x4 : Int32} {o5 : Option Value} {o6 : Option Value} {σ : St} (h1 : x0 < 24 ∧ kls x0 = 5) (h2 : isL (fr x0 4) ∧ vp_in (((64 : Int32) * x1) + x4) (ale (fr x0 4)))
    (k : Er (d + 1) 85 (6, [some (.ref x0), some (.int x1), some (.long ((gal σ (fr x0 4) (((64 : Int32) * x1) + x4).toNatClampNeg) &&& (1 : Int64))), none, some (.int (x4 + (-1 : Int32))), some (.long (gal σ (fr x0 4) (((64 : Int32) * x1) + x4).toNatClampNeg)), none], [], (sal σ (fr x0 4) (((64 : Int32) * x1) + x4).toNatClampNeg (((gal σ (fr x0 4) (((64 : Int32) * x1) + x4).toNatClampNeg) >>> ((1 : Int32).toInt64 &&& 63)) ||| (x2 <<< ((31 : Int32).toInt64 &&& 63))))) q) :
    Er (d + 1) 85 (11, [some (.ref x0), some (.int x1), some (.long x2), none, some (.int x4), o5, o6], [], σ) q := Er.sT (c2 := (12, [some (.ref x0), some (.int x1), some (.long x2), none, some (.int x4), o5, o6], [.ref x0], σ)) r85_11 rfl rfl <| Er.st (P := (x0 < 24 ∧ kls x0 = 5)) (c2 := (15, [some (.ref x0), some (.int x1), some (.long x2), none, some (.int x4), o5, o6], [.ref (fr x0 4)], σ)) r85_12 rfl rfl h1 <| Er.sT (c2 := (17, [some (.ref x0), some (.int x1), some (.long x2), none, some (.int x4), o5, o6], [.int (64 : Int32), .ref (fr x0 4)], σ)) r85_15 rfl rfl <| Er.sT (c2 := (18, [some (.ref x0), some (.int x1), some (.long x2), none, some (.int x4), o5, o6], [.int x1, .int (64 : Int32), .ref (fr x0 4)], σ)) r85_17 rfl rfl <| Er.sT (c2 := (19, [some (.ref x0), some (.int x1), some (.long x2), none, some (.int x4), o5, o6], [.int ((64 : Int32) * x1), .ref (fr x0 4)], σ)) r85_18 rfl rfl <| Er.sT (c2 := (21, [some (.ref x0), some (.int x1), some (.long x2), none, some (.int x4), o5, o6], [.int x4, .int ((64 : Int32) * x1), .ref (fr x0 4)], σ)) r85_19 rfl rfl <| Er.sT (c2 := (22, [some (.ref x0), some (.int x1), some (.long x2), none, some (.int x4), o5, o6], [.int (((64 : Int32) * x1) + x4), .ref (fr x0 4)], σ)) r85_21 rfl rfl <| Er.st (P := (isL (fr x0 4) ∧ vp_in (((64 : Int32) * x1) + x4) (ale (fr x0 4)))) (c2 := (23, [some (.ref x0), some (.int x1), some (.long x2), none, some (.int x4), o5, o6], [.long (gal σ (fr x0 4) (((64 : Int32) * x1) + x4).toNatClampNeg)], σ)) r85_22 rfl rfl h2 <| Er.sT (c2 := (25, [some (.ref x0), some (.int x1), some (.long x2), none, some (.int x4), some (.long (gal σ (fr x0 4) (((64 : Int32) * x1) + x4).toNatClampNeg)), none], [], σ)) r85_23 rfl rfl <| Er.sT (c2 := (26, [some (.ref x0), some (.int x1), some (.long x2), none, some (.int x4), some (.long (gal σ (fr x0 4) (((64 : Int32) * x1) + x4).toNatClampNeg)), none], [.ref x0], σ)) r85_25 rfl rfl <| Er.st (P := (x0 < 24 ∧ kls x0 = 5)) (c2 := (29, [some (.ref x0), some (.int x1), some (.long x2), none, some (.int x4), some (.long (gal σ (fr x0 4) (((64 : Int32) * x1) + x4).toNatClampNeg)), none], [.ref (fr x0 4)], σ)) r85_26 rfl rfl h1 <| Er.sT (c2 := (31, [some (.ref x0), some (.int x1), some (.long x2), none, some (.int x4), some (.long (gal σ (fr x0 4) (((64 : Int32) * x1) + x4).toNatClampNeg)), none], [.int (64 : Int32), .ref (fr x0 4)], σ)) r85_29 rfl rfl <| Er.sT (c2 := (32, [some (.ref x0), some (.int x1), some (.long x2), none, some (.int x4), some (.long (gal σ (fr x0 4) (((64 : Int32) * x1) + x4).toNatClampNeg)), none], [.int x1, .int (64 : Int32), .ref (fr x0 4)], σ)) r85_31 rfl rfl <| Er.sT (c2 := (33, [some (.ref x0), some (.int x1), some (.long x2), none, some (.int x4), some (.long (gal σ (fr x0 4) (((64 : Int32) * x1) + x4).toNatClampNeg)), none], [.int ((64 : Int32) * x1), .ref (fr x0 4)], σ)) r85_32 rfl rfl <| Er.sT (c2 := (35, [some (.ref x0), some (.int x1), some (.long x2), none, some (.int x4), some (.long (gal σ (fr x0 4) (((64 : Int32) * x1) + x4).toNatClampNeg)), none], [.int x4, .int ((64 : Int32) * x1), .ref (fr x0 4)], σ)) r85_33 rfl rfl <| Er.sT (c2 := (36, [some (.ref x0), some (.int x1), some (.long x2), none, some (.int x4), some (.long (gal σ (fr x0 4) (((64 : Int32) * x1) + x4).toNatClampNeg)), none], [.int (((64 : Int32) * x1) + x4), .ref (fr x0 4)], σ)) r85_35 rfl rfl <| Er.sT (c2 := (38, [some (.ref x0), some (.int x1), some (.long x2), none, some (.int x4), some (.long (gal σ (fr x0 4) (((64 : Int32) * x1) + x4).toNatClampNeg)), none], [.long (gal σ (fr x0 4) (((64 : Int32) * x1) + x4).toNatClampNeg), .int (((64 : Int32) * x1) + x4), .ref (fr x0 4)], σ)) r85_36 rfl rfl <| Er.sT (c2 := (39, [some (.ref x0), some (.int x1), some (.long x2), none, some (.int x4), some (.long (gal σ (fr x0 4) (((64 : Int32) * x1) + x4).toNatClampNeg)), none], [.int (1 : Int32), .long (gal σ (fr x0 4) (((64 : Int32) * x1) + x4).toNatClampNeg), .int (((64 : Int32) * x1) + x4), .ref (fr x0 4)], σ)) r85_38 rfl rfl <| Er.sT (c2 := (40, [some (.ref x0), some (.int x1), some (.long x2), none, some (.int x4), some (.long (gal σ (fr x0 4) (((64 : Int32) * x1) + x4).toNatClampNeg)), none], [.long ((gal σ (fr x0 4) (((64 : Int32) * x1) + x4).toNatClampNeg) >>> ((1 : Int32).toInt64 &&& 63)), .int (((64 : Int32) * x1) + x4), .ref (fr x0 4)], σ)) r85_39 rfl rfl <| Er.sT (c2 := (41, [some (.ref x0), some (.int x1), some (.long x2), none, some (.int x4), some (.long (gal σ (fr x0 4) (((64 : Int32) * x1) + x4).toNatClampNeg)), none], [.long x2, .long ((gal σ (fr x0 4) (((64 : Int32) * x1) + x4).toNatClampNeg) >>> ((1 : Int32).toInt64 &&& 63)), .int (((64 : Int32) * x1) + x4), .ref (fr x0 4)], σ)) r85_40 rfl rfl <| Er.sT (c2 := (43, [some (.ref x0), some (.int x1), some (.long x2), none, some (.int x4), some (.long (gal σ (fr x0 4) (((64 : Int32) * x1) + x4).toNatClampNeg)), none], [.int (31 : Int32), .long x2, .long ((gal σ (fr x0 4) (((64 : Int32) * x1) + x4).toNatClampNeg) >>> ((1 : Int32).toInt64 &&& 63)), .int (((64 : Int32) * x1) + x4), .ref (fr x0 4)], σ)) r85_41 rfl rfl <| Er.sT (c2 := (44, [some (.ref x0), some (.int x1), some (.long x2), none, some (.int x4), some (.long (gal σ (fr x0 4) (((64 : Int32) * x1) + x4).toNatClampNeg)), none], [.long (x2 <<< ((31 : Int32).toInt64 &&& 63)), .long ((gal σ (fr x0 4) (((64 : Int32) * x1) + x4).toNatClampNeg) >>> ((1 : Int32).toInt64 &&& 63)), .int (((64 : Int32) * x1) + x4), .ref (fr x0 4)], σ)) r85_43 rfl rfl <| Er.sT (c2 := (45, [some (.ref x0), some (.int x1), some (.long x2), none, some (.int x4), some (.long (gal σ (fr x0 4) (((64 : Int32) * x1) + x4).toNatClampNeg)), none], [.long (((gal σ (fr x0 4) (((64 : Int32) * x1) + x4).toNatClampNeg) >>> ((1 : Int32).toInt64 &&& 63)) ||| (x2 <<< ((31 : Int32).toInt64 &&& 63))), .int (((64 : Int32) * x1) + x4), .ref (fr x0 4)], σ)) r85_44 rfl rfl <| Er.st (P := (isL (fr x0 4) ∧ vp_in (((64 : Int32) * x1) + x4) (ale (fr x0 4)))) (c2 := (46, [some (.ref x0), some (.int x1), some (.long x2), none, some (.int x4), some (.long (gal σ (fr x0 4) (((64 : Int32) * x1) + x4).toNatClampNeg)), none], [], (sal σ (fr x0 4) (((64 : Int32) * x1) + x4).toNatClampNeg (((gal σ (fr x0 4) (((64 : Int32) * x1) + x4).toNatClampNeg) >>> ((1 : Int32).toInt64 &&& 63)) ||| (x2 <<< ((31 : Int32).toInt64 &&& 63)))))) r85_45 rfl rfl h2 <| Er.sT (c2 := (48, [some (.ref x0), some (.int x1), some (.long x2), none, some (.int x4), some (.long (gal σ (fr x0 4) (((64 : Int32) * x1) + x4).toNatClampNeg)), none], [.long (gal σ (fr x0 4) (((64 : Int32) * x1) + x4).toNatClampNeg)], (sal σ (fr x0 4) (((64 : Int32) * x1) + x4).toNatClampNeg (((gal σ (fr x0 4) (((64 : Int32) * x1) + x4).toNatClampNeg) >>> ((1 : Int32).toInt64 &&& 63)) ||| (x2 <<< ((31 : Int32).toInt64 &&& 63)))))) r85_46 rfl rfl <| Er.sT (c2 := (49, [some (.ref x0), some (.int x1), some (.long x2), none, some (.int x4), some (.long (gal σ (fr x0 4) (((64 : Int32) * x1) + x4).toNatClampNeg)), none], [.long (1 : Int64), .long (gal σ (fr x0 4) (((64 : Int32) * x1) + x4).toNatClampNeg)], (sal σ (fr x0 4) (((64 : Int32) * x1) + x4).toNatClampNeg (((gal σ (fr x0 4) (((64 : Int32) * x1) + x4).toNatClampNeg) >>> ((1 : Int32).toInt64 &&& 63)) ||| (x2 <<< ((31 : Int32).toInt64 &&& 63)))))) r85_48 rfl rfl <| Er.sT (c2 := (50, [some (.ref x0), some (.int x1), some (.long x2), none, some (.int x4), some (.long (gal σ (fr x0 4) (((64 : Int32) * x1) + x4).toNatClampNeg)), none], [.long ((gal σ (fr x0 4) (((64 : Int32) * x1) + x4).toNatClampNeg) &&& (1 : Int64))], (sal σ (fr x0 4) (((64 : Int32) * x1) + x4).toNatClampNeg (((gal σ (fr x0 4) (((64 : Int32) * x1) + x4).toNatClampNeg) >>> ((1 : Int32).toInt64 &&& 63)) ||| (x2 <<< ((31 : Int32).toInt64 &&& 63)))))) r85_49 rfl rfl <| Er.sT (c2 := (51, [some (.ref x0), some (.int x1), some (.long ((gal σ (fr x0 4) (((64 : Int32) * x1) + x4).toNatClampNeg) &&& (1 : Int64))), none, some (.int x4), some (.long (gal σ (fr x0 4) (((64 : Int32) * x1) + x4).toNatClampNeg)), none], [], (sal σ (fr x0 4) (((64 : Int32) * x1) + x4).toNatClampNeg (((gal σ (fr x0 4) (((64 : Int32) * x1) + x4).toNatClampNeg) >>> ((1 : Int32).toInt64 &&& 63)) ||| (x2 <<< ((31 : Int32).toInt64 &&& 63)))))) r85_50 rfl rfl <| Er.sT (c2 := (54, [some (.ref x0), some (.int x1), some (.long ((gal σ (fr x0 4) (((64 : Int32) * x1) + x4).toNatClampNeg) &&& (1 : Int64))), none, some (.int (x4 + (-1 : Int32))), some (.long (gal σ (fr x0 4) (((64 : Int32) * x1) + x4).toNatClampNeg)), none], [], (sal σ (fr x0 4) (((64 : Int32) * x1) + x4).toNatClampNeg (((gal σ (fr x0 4) (((64 : Int32) * x1) + x4).toNatClampNeg) >>> ((1 : Int32).toInt64 &&& 63)) ||| (x2 <<< ((31 : Int32).toInt64 &&& 63)))))) r85_51 rfl rfl <| Er.sT (c2 := (6, [some (.ref x0), some (.int x1), some (.long ((gal σ (fr x0 4) (((64 : Int32) * x1) + x4).toNatClampNeg) &&& (1 : Int64))), none, some (.int (x4 + (-1 : Int32))), some (.long (gal σ (fr x0 4) (((64 : Int32) * x1) + x4).toNatClampNeg)), none], [], (sal σ (fr x0 4) (((64 : Int32) * x1) + x4).toNatClampNeg (((gal σ (fr x0 4) (((64 : Int32) * x1) + x4).toNatClampNeg) >>> ((1 : Int32).toInt64 &&& 63)) ||| (x2 <<< ((31 : Int32).toInt64 &&& 63)))))) r85_54 rfl rfl <| k
theorem b85_57 {d : Nat} {x0 : Nat} {x1 : Int32} {x2 : Int64} {x4 : Int32} {o5 : Option Value} {o6 : Option Value} {σ : St}  :
    Er (d + 1) 85 (57, [some (.ref x0), some (.int x1), some (.long x2), none, some (.int x4), o5, o6], [], σ) (.inl none, σ, 0) := (Er.ret r85_57 rfl ⟨rfl, rfl, rfl⟩)
/-! NumberModelsModel.compare(II)I -/
theorem tab_86 : tab 86 = tb86_0 := rfl
theorem ch86_0 {j : Nat} {r : Row} (h : tb86_0[j]? = some r) : rowAt 86 r.1 = some r := row_mem 86 (by decide) (by rw [tab_86]; exact List.mem_of_getElem? h)
theorem r86_0 : rowAt 86 0 = some (0, 2, .bipush 63, 0, 0, 0, 63, 0) := ch86_0 (j := 0) rfl
theorem r86_2 : rowAt 86 2 = some (ra 2 3 (.istore_n 3) 3 0 0) := ch86_0 (j := 1) rfl
theorem r86_3 : rowAt 86 3 = some (ra 3 4 (.iload_n 3) 3 0 0) := ch86_0 (j := 2) rfl
theorem r86_4 : rowAt 86 4 = some (ra 4 7 (.ifCond .lt 67) 71 0 0) := ch86_0 (j := 3) rfl
theorem r86_7 : rowAt 86 7 = some (r0 7 8 (.aload_n 0)) := ch86_0 (j := 4) rfl
theorem r86_8 : rowAt 86 8 = some (ra 8 11 (.getfield 17) 4 5 877) := ch86_0 (j := 5) rfl
theorem r86_11 : rowAt 86 11 = some (11, 13, .bipush 64, 0, 0, 0, 64, 0) := ch86_0 (j := 6) rfl
theorem r86_13 : rowAt 86 13 = some (ra 13 14 (.iload_n 1) 1 0 0) := ch86_0 (j := 7) rfl
theorem r86_14 : rowAt 86 14 = some (r0 14 15 (.imul)) := ch86_0 (j := 8) rfl
theorem r86_15 : rowAt 86 15 = some (ra 15 16 (.iload_n 3) 3 0 0) := ch86_0 (j := 9) rfl
theorem r86_16 : rowAt 86 16 = some (r0 16 17 (.iadd)) := ch86_0 (j := 10) rfl
theorem r86_17 : rowAt 86 17 = some (r0 17 18 (.laload)) := ch86_0 (j := 11) rfl
theorem r86_18 : rowAt 86 18 = some (r0 18 19 (.aload_n 0)) := ch86_0 (j := 12) rfl
theorem r86_19 : rowAt 86 19 = some (ra 19 22 (.getfield 17) 4 5 877) := ch86_0 (j := 13) rfl
theorem r86_22 : rowAt 86 22 = some (22, 24, .bipush 64, 0, 0, 0, 64, 0) := ch86_0 (j := 14) rfl
theorem r86_24 : rowAt 86 24 = some (ra 24 25 (.iload_n 2) 2 0 0) := ch86_0 (j := 15) rfl
theorem r86_25 : rowAt 86 25 = some (r0 25 26 (.imul)) := ch86_0 (j := 16) rfl
theorem r86_26 : rowAt 86 26 = some (ra 26 27 (.iload_n 3) 3 0 0) := ch86_0 (j := 17) rfl
theorem r86_27 : rowAt 86 27 = some (r0 27 28 (.iadd)) := ch86_0 (j := 18) rfl
theorem r86_28 : rowAt 86 28 = some (r0 28 29 (.laload)) := ch86_0 (j := 19) rfl
theorem r86_29 : rowAt 86 29 = some (r0 29 30 (.lcmp)) := ch86_0 (j := 20) rfl
theorem r86_30 : rowAt 86 30 = some (ra 30 33 (.ifCond .eq 35) 65 0 0) := ch86_0 (j := 21) rfl
theorem r86_33 : rowAt 86 33 = some (r0 33 34 (.aload_n 0)) := ch86_0 (j := 22) rfl
theorem r86_34 : rowAt 86 34 = some (ra 34 37 (.getfield 17) 4 5 877) := ch86_0 (j := 23) rfl
theorem r86_37 : rowAt 86 37 = some (37, 39, .bipush 64, 0, 0, 0, 64, 0) := ch86_0 (j := 24) rfl
theorem r86_39 : rowAt 86 39 = some (ra 39 40 (.iload_n 1) 1 0 0) := ch86_0 (j := 25) rfl
theorem r86_40 : rowAt 86 40 = some (r0 40 41 (.imul)) := ch86_0 (j := 26) rfl
theorem r86_41 : rowAt 86 41 = some (ra 41 42 (.iload_n 3) 3 0 0) := ch86_0 (j := 27) rfl
theorem r86_42 : rowAt 86 42 = some (r0 42 43 (.iadd)) := ch86_0 (j := 28) rfl
theorem r86_43 : rowAt 86 43 = some (r0 43 44 (.laload)) := ch86_0 (j := 29) rfl
theorem r86_44 : rowAt 86 44 = some (r0 44 45 (.aload_n 0)) := ch86_0 (j := 30) rfl
theorem r86_45 : rowAt 86 45 = some (ra 45 48 (.getfield 17) 4 5 877) := ch86_0 (j := 31) rfl
theorem r86_48 : rowAt 86 48 = some (48, 50, .bipush 64, 0, 0, 0, 64, 0) := ch86_0 (j := 32) rfl
theorem r86_50 : rowAt 86 50 = some (ra 50 51 (.iload_n 2) 2 0 0) := ch86_0 (j := 33) rfl
theorem r86_51 : rowAt 86 51 = some (r0 51 52 (.imul)) := ch86_0 (j := 34) rfl
theorem r86_52 : rowAt 86 52 = some (ra 52 53 (.iload_n 3) 3 0 0) := ch86_0 (j := 35) rfl
theorem r86_53 : rowAt 86 53 = some (r0 53 54 (.iadd)) := ch86_0 (j := 36) rfl
theorem r86_54 : rowAt 86 54 = some (r0 54 55 (.laload)) := ch86_0 (j := 37) rfl
theorem r86_55 : rowAt 86 55 = some (r0 55 56 (.lcmp)) := ch86_0 (j := 38) rfl
theorem r86_56 : rowAt 86 56 = some (ra 56 59 (.ifCond .ge 7) 63 0 0) := ch86_0 (j := 39) rfl
theorem r86_59 : rowAt 86 59 = some (59, 60, .iconst (-1), 0, 0, 0, (-1), 0) := ch86_0 (j := 40) rfl
theorem r86_60 : rowAt 86 60 = some (ra 60 63 (.goto 4) 64 0 0) := ch86_0 (j := 41) rfl
theorem r86_63 : rowAt 86 63 = some (63, 64, .iconst 1, 0, 0, 0, 1, 0) := ch86_0 (j := 42) rfl
theorem r86_64 : rowAt 86 64 = some (r0 64 65 (.ireturn)) := ch86_0 (j := 43) rfl
theorem r86_65 : rowAt 86 65 = some (65, 68, .iinc 3 (-1), 3, 0, 0, (-1), 0) := ch86_0 (j := 44) rfl
theorem r86_68 : rowAt 86 68 = some (ra 68 71 (.goto (-65)) 3 0 0) := ch86_0 (j := 45) rfl
theorem r86_71 : rowAt 86 71 = some (r0 71 72 (.iconst 0)) := ch86_0 (j := 46) rfl
theorem r86_72 : rowAt 86 72 = some (r0 72 73 (.ireturn)) := ch86_0 (j := 47) rfl
theorem b86_0 {d : Nat} {q : Rs} {x0 : Nat} {x1 : Int32} {x2 : Int32} {σ : St} 
    (k : Er (d + 1) 86 (3, [some (.ref x0), some (.int x1), some (.int x2), some (.int (63 : Int32))], [], σ) q) :
    Er (d + 1) 86 (0, [some (.ref x0), some (.int x1), some (.int x2), none], [], σ) q := Er.sT (c2 := (2, [some (.ref x0), some (.int x1), some (.int x2), none], [.int (63 : Int32)], σ)) r86_0 rfl rfl <| Er.sT (c2 := (3, [some (.ref x0), some (.int x1), some (.int x2), some (.int (63 : Int32))], [], σ)) r86_2 rfl rfl <| k
theorem b86_3 {d : Nat} {q : Rs} {x0 : Nat} {x1 : Int32} {x2 : Int32} {x3 : Int32} {σ : St} 
    (kt : x3 < (0 : Int32) → Er (d + 1) 86 (71, [some (.ref x0), some (.int x1), some (.int x2), some (.int x3)], [], σ) q)
    (kf : ¬ x3 < (0 : Int32) → Er (d + 1) 86 (7, [some (.ref x0), some (.int x1), some (.int x2), some (.int x3)], [], σ) q) :
    Er (d + 1) 86 (3, [some (.ref x0), some (.int x1), some (.int x2), some (.int x3)], [], σ) q := Er.sT (c2 := (4, [some (.ref x0), some (.int x1), some (.int x2), some (.int x3)], [.int x3], σ)) r86_3 rfl rfl <| Er.sT (c2 := (brn .lt x3 (0 : Int32) 71 7, [some (.ref x0), some (.int x1), some (.int x2), some (.int x3)], [], σ)) r86_4 rfl rfl <| (br_lt kt kf)
theorem b86_7 {d : Nat} {q : Rs} {x0 : Nat} {x1 : Int32} {x2 : Int32} {x3 : Int32} {σ : St} (h1 : x0 < 24 ∧ kls x0 = 5) (h2 : isL (fr x0 4) ∧ vp_in (((64 : Int32) * x1) + x3) (ale (fr x0 4))) (h3 : isL (fr x0 4) ∧ vp_in (((64 : Int32) * x2) + x3) (ale (fr x0 4)))
    (kt : (gal σ (fr x0 4) (((64 : Int32) * x1) + x3).toNatClampNeg) = (gal σ (fr x0 4) (((64 : Int32) * x2) + x3).toNatClampNeg) → Er (d + 1) 86 (65, [some (.ref x0), some (.int x1), some (.int x2), some (.int x3)], [], σ) q)
    (kf : ¬ (gal σ (fr x0 4) (((64 : Int32) * x1) + x3).toNatClampNeg) = (gal σ (fr x0 4) (((64 : Int32) * x2) + x3).toNatClampNeg) → Er (d + 1) 86 (33, [some (.ref x0), some (.int x1), some (.int x2), some (.int x3)], [], σ) q) :
    Er (d + 1) 86 (7, [some (.ref x0), some (.int x1), some (.int x2), some (.int x3)], [], σ) q := Er.sT (c2 := (8, [some (.ref x0), some (.int x1), some (.int x2), some (.int x3)], [.ref x0], σ)) r86_7 rfl rfl <| Er.st (P := (x0 < 24 ∧ kls x0 = 5)) (c2 := (11, [some (.ref x0), some (.int x1), some (.int x2), some (.int x3)], [.ref (fr x0 4)], σ)) r86_8 rfl rfl h1 <| Er.sT (c2 := (13, [some (.ref x0), some (.int x1), some (.int x2), some (.int x3)], [.int (64 : Int32), .ref (fr x0 4)], σ)) r86_11 rfl rfl <| Er.sT (c2 := (14, [some (.ref x0), some (.int x1), some (.int x2), some (.int x3)], [.int x1, .int (64 : Int32), .ref (fr x0 4)], σ)) r86_13 rfl rfl <| Er.sT (c2 := (15, [some (.ref x0), some (.int x1), some (.int x2), some (.int x3)], [.int ((64 : Int32) * x1), .ref (fr x0 4)], σ)) r86_14 rfl rfl <| Er.sT (c2 := (16, [some (.ref x0), some (.int x1), some (.int x2), some (.int x3)], [.int x3, .int ((64 : Int32) * x1), .ref (fr x0 4)], σ)) r86_15 rfl rfl <| Er.sT (c2 := (17, [some (.ref x0), some (.int x1), some (.int x2), some (.int x3)], [.int (((64 : Int32) * x1) + x3), .ref (fr x0 4)], σ)) r86_16 rfl rfl <| Er.st (P := (isL (fr x0 4) ∧ vp_in (((64 : Int32) * x1) + x3) (ale (fr x0 4)))) (c2 := (18, [some (.ref x0), some (.int x1), some (.int x2), some (.int x3)], [.long (gal σ (fr x0 4) (((64 : Int32) * x1) + x3).toNatClampNeg)], σ)) r86_17 rfl rfl h2 <| Er.sT (c2 := (19, [some (.ref x0), some (.int x1), some (.int x2), some (.int x3)], [.ref x0, .long (gal σ (fr x0 4) (((64 : Int32) * x1) + x3).toNatClampNeg)], σ)) r86_18 rfl rfl <| Er.st (P := (x0 < 24 ∧ kls x0 = 5)) (c2 := (22, [some (.ref x0), some (.int x1), some (.int x2), some (.int x3)], [.ref (fr x0 4), .long (gal σ (fr x0 4) (((64 : Int32) * x1) + x3).toNatClampNeg)], σ)) r86_19 rfl rfl h1 <| Er.sT (c2 := (24, [some (.ref x0), some (.int x1), some (.int x2), some (.int x3)], [.int (64 : Int32), .ref (fr x0 4), .long (gal σ (fr x0 4) (((64 : Int32) * x1) + x3).toNatClampNeg)], σ)) r86_22 rfl rfl <| Er.sT (c2 := (25, [some (.ref x0), some (.int x1), some (.int x2), some (.int x3)], [.int x2, .int (64 : Int32), .ref (fr x0 4), .long (gal σ (fr x0 4) (((64 : Int32) * x1) + x3).toNatClampNeg)], σ)) r86_24 rfl rfl <| Er.sT (c2 := (26, [some (.ref x0), some (.int x1), some (.int x2), some (.int x3)], [.int ((64 : Int32) * x2), .ref (fr x0 4), .long (gal σ (fr x0 4) (((64 : Int32) * x1) + x3).toNatClampNeg)], σ)) r86_25 rfl rfl <| Er.sT (c2 := (27, [some (.ref x0), some (.int x1), some (.int x2), some (.int x3)], [.int x3, .int ((64 : Int32) * x2), .ref (fr x0 4), .long (gal σ (fr x0 4) (((64 : Int32) * x1) + x3).toNatClampNeg)], σ)) r86_26 rfl rfl <| Er.sT (c2 := (28, [some (.ref x0), some (.int x1), some (.int x2), some (.int x3)], [.int (((64 : Int32) * x2) + x3), .ref (fr x0 4), .long (gal σ (fr x0 4) (((64 : Int32) * x1) + x3).toNatClampNeg)], σ)) r86_27 rfl rfl <| Er.st (P := (isL (fr x0 4) ∧ vp_in (((64 : Int32) * x2) + x3) (ale (fr x0 4)))) (c2 := (29, [some (.ref x0), some (.int x1), some (.int x2), some (.int x3)], [.long (gal σ (fr x0 4) (((64 : Int32) * x2) + x3).toNatClampNeg), .long (gal σ (fr x0 4) (((64 : Int32) * x1) + x3).toNatClampNeg)], σ)) r86_28 rfl rfl h3 <| Er.sT (c2 := (30, [some (.ref x0), some (.int x1), some (.int x2), some (.int x3)], [.int (lg_cmp (gal σ (fr x0 4) (((64 : Int32) * x1) + x3).toNatClampNeg) (gal σ (fr x0 4) (((64 : Int32) * x2) + x3).toNatClampNeg))], σ)) r86_29 rfl rfl <| Er.sT (c2 := (brn .eq (lg_cmp (gal σ (fr x0 4) (((64 : Int32) * x1) + x3).toNatClampNeg) (gal σ (fr x0 4) (((64 : Int32) * x2) + x3).toNatClampNeg)) (0 : Int32) 65 33, [some (.ref x0), some (.int x1), some (.int x2), some (.int x3)], [], σ)) r86_30 rfl rfl <| (bl_eq kt kf)
theorem b86_33 {d : Nat} {q : Rs} {x0 : Nat} {x1 : Int32} {x2 : Int32} {x3 : Int32} {σ : St} (h1 : x0 < 24 ∧ kls x0 = 5) (h2 : isL (fr x0 4) ∧ vp_in (((64 : Int32) * x1) + x3) (ale (fr x0 4))) (h3 : isL (fr x0 4) ∧ vp_in (((64 : Int32) * x2) + x3) (ale (fr x0 4)))
    (kt : ¬ (gal σ (fr x0 4) (((64 : Int32) * x1) + x3).toNatClampNeg) < (gal σ (fr x0 4) (((64 : Int32) * x2) + x3).toNatClampNeg) → Er (d + 1) 86 (63, [some (.ref x0), some (.int x1), some (.int x2), some (.int x3)], [], σ) q)
    (kf : (gal σ (fr x0 4) (((64 : Int32) * x1) + x3).toNatClampNeg) < (gal σ (fr x0 4) (((64 : Int32) * x2) + x3).toNatClampNeg) → Er (d + 1) 86 (59, [some (.ref x0), some (.int x1), some (.int x2), some (.int x3)], [], σ) q) :
    Er (d + 1) 86 (33, [some (.ref x0), some (.int x1), some (.int x2), some (.int x3)], [], σ) q := Er.sT (c2 := (34, [some (.ref x0), some (.int x1), some (.int x2), some (.int x3)], [.ref x0], σ)) r86_33 rfl rfl <| Er.st (P := (x0 < 24 ∧ kls x0 = 5)) (c2 := (37, [some (.ref x0), some (.int x1), some (.int x2), some (.int x3)], [.ref (fr x0 4)], σ)) r86_34 rfl rfl h1 <| Er.sT (c2 := (39, [some (.ref x0), some (.int x1), some (.int x2), some (.int x3)], [.int (64 : Int32), .ref (fr x0 4)], σ)) r86_37 rfl rfl <| Er.sT (c2 := (40, [some (.ref x0), some (.int x1), some (.int x2), some (.int x3)], [.int x1, .int (64 : Int32), .ref (fr x0 4)], σ)) r86_39 rfl rfl <| Er.sT (c2 := (41, [some (.ref x0), some (.int x1), some (.int x2), some (.int x3)], [.int ((64 : Int32) * x1), .ref (fr x0 4)], σ)) r86_40 rfl rfl <| Er.sT (c2 := (42, [some (.ref x0), some (.int x1), some (.int x2), some (.int x3)], [.int x3, .int ((64 : Int32) * x1), .ref (fr x0 4)], σ)) r86_41 rfl rfl <| Er.sT (c2 := (43, [some (.ref x0), some (.int x1), some (.int x2), some (.int x3)], [.int (((64 : Int32) * x1) + x3), .ref (fr x0 4)], σ)) r86_42 rfl rfl <| Er.st (P := (isL (fr x0 4) ∧ vp_in (((64 : Int32) * x1) + x3) (ale (fr x0 4)))) (c2 := (44, [some (.ref x0), some (.int x1), some (.int x2), some (.int x3)], [.long (gal σ (fr x0 4) (((64 : Int32) * x1) + x3).toNatClampNeg)], σ)) r86_43 rfl rfl h2 <| Er.sT (c2 := (45, [some (.ref x0), some (.int x1), some (.int x2), some (.int x3)], [.ref x0, .long (gal σ (fr x0 4) (((64 : Int32) * x1) + x3).toNatClampNeg)], σ)) r86_44 rfl rfl <| Er.st (P := (x0 < 24 ∧ kls x0 = 5)) (c2 := (48, [some (.ref x0), some (.int x1), some (.int x2), some (.int x3)], [.ref (fr x0 4), .long (gal σ (fr x0 4) (((64 : Int32) * x1) + x3).toNatClampNeg)], σ)) r86_45 rfl rfl h1 <| Er.sT (c2 := (50, [some (.ref x0), some (.int x1), some (.int x2), some (.int x3)], [.int (64 : Int32), .ref (fr x0 4), .long (gal σ (fr x0 4) (((64 : Int32) * x1) + x3).toNatClampNeg)], σ)) r86_48 rfl rfl <| Er.sT (c2 := (51, [some (.ref x0), some (.int x1), some (.int x2), some (.int x3)], [.int x2, .int (64 : Int32), .ref (fr x0 4), .long (gal σ (fr x0 4) (((64 : Int32) * x1) + x3).toNatClampNeg)], σ)) r86_50 rfl rfl <| Er.sT (c2 := (52, [some (.ref x0), some (.int x1), some (.int x2), some (.int x3)], [.int ((64 : Int32) * x2), .ref (fr x0 4), .long (gal σ (fr x0 4) (((64 : Int32) * x1) + x3).toNatClampNeg)], σ)) r86_51 rfl rfl <| Er.sT (c2 := (53, [some (.ref x0), some (.int x1), some (.int x2), some (.int x3)], [.int x3, .int ((64 : Int32) * x2), .ref (fr x0 4), .long (gal σ (fr x0 4) (((64 : Int32) * x1) + x3).toNatClampNeg)], σ)) r86_52 rfl rfl <| Er.sT (c2 := (54, [some (.ref x0), some (.int x1), some (.int x2), some (.int x3)], [.int (((64 : Int32) * x2) + x3), .ref (fr x0 4), .long (gal σ (fr x0 4) (((64 : Int32) * x1) + x3).toNatClampNeg)], σ)) r86_53 rfl rfl <| Er.st (P := (isL (fr x0 4) ∧ vp_in (((64 : Int32) * x2) + x3) (ale (fr x0 4)))) (c2 := (55, [some (.ref x0), some (.int x1), some (.int x2), some (.int x3)], [.long (gal σ (fr x0 4) (((64 : Int32) * x2) + x3).toNatClampNeg), .long (gal σ (fr x0 4) (((64 : Int32) * x1) + x3).toNatClampNeg)], σ)) r86_54 rfl rfl h3 <| Er.sT (c2 := (56, [some (.ref x0), some (.int x1), some (.int x2), some (.int x3)], [.int (lg_cmp (gal σ (fr x0 4) (((64 : Int32) * x1) + x3).toNatClampNeg) (gal σ (fr x0 4) (((64 : Int32) * x2) + x3).toNatClampNeg))], σ)) r86_55 rfl rfl <| Er.sT (c2 := (brn .ge (lg_cmp (gal σ (fr x0 4) (((64 : Int32) * x1) + x3).toNatClampNeg) (gal σ (fr x0 4) (((64 : Int32) * x2) + x3).toNatClampNeg)) (0 : Int32) 63 59, [some (.ref x0), some (.int x1), some (.int x2), some (.int x3)], [], σ)) r86_56 rfl rfl <| (bl_ge kt kf)
theorem b86_59 {d : Nat} {q : Rs} {x0 : Nat} {x1 : Int32} {x2 : Int32} {x3 : Int32} {σ : St} 
    (k : Er (d + 1) 86 (64, [some (.ref x0), some (.int x1), some (.int x2), some (.int x3)], [.int (-1 : Int32)], σ) q) :
    Er (d + 1) 86 (59, [some (.ref x0), some (.int x1), some (.int x2), some (.int x3)], [], σ) q := Er.sT (c2 := (60, [some (.ref x0), some (.int x1), some (.int x2), some (.int x3)], [.int (-1 : Int32)], σ)) r86_59 rfl rfl <| Er.sT (c2 := (64, [some (.ref x0), some (.int x1), some (.int x2), some (.int x3)], [.int (-1 : Int32)], σ)) r86_60 rfl rfl <| k
theorem b86_63 {d : Nat} {q : Rs} {x0 : Nat} {x1 : Int32} {x2 : Int32} {x3 : Int32} {σ : St} 
    (k : Er (d + 1) 86 (64, [some (.ref x0), some (.int x1), some (.int x2), some (.int x3)], [.int (1 : Int32)], σ) q) :
    Er (d + 1) 86 (63, [some (.ref x0), some (.int x1), some (.int x2), some (.int x3)], [], σ) q := Er.sT (c2 := (64, [some (.ref x0), some (.int x1), some (.int x2), some (.int x3)], [.int (1 : Int32)], σ)) r86_63 rfl rfl <| k
theorem b86_64 {d : Nat} {x0 : Nat} {x1 : Int32} {x2 : Int32} {x3 : Int32} {s0 : Int32} {σ : St}  :
    Er (d + 1) 86 (64, [some (.ref x0), some (.int x1), some (.int x2), some (.int x3)], [.int s0], σ) (.inl (some (.int s0)), σ, 0) := (Er.ret r86_64 rfl ⟨_, _, rfl, rfl, rfl, rfl⟩)
theorem b86_65 {d : Nat} {q : Rs} {x0 : Nat} {x1 : Int32} {x2 : Int32} {x3 : Int32} {σ : St} 
    (k : Er (d + 1) 86 (3, [some (.ref x0), some (.int x1), some (.int x2), some (.int (x3 + (-1 : Int32)))], [], σ) q) :
    Er (d + 1) 86 (65, [some (.ref x0), some (.int x1), some (.int x2), some (.int x3)], [], σ) q := Er.sT (c2 := (68, [some (.ref x0), some (.int x1), some (.int x2), some (.int (x3 + (-1 : Int32)))], [], σ)) r86_65 rfl rfl <| Er.sT (c2 := (3, [some (.ref x0), some (.int x1), some (.int x2), some (.int (x3 + (-1 : Int32)))], [], σ)) r86_68 rfl rfl <| k
theorem b86_71 {d : Nat} {x0 : Nat} {x1 : Int32} {x2 : Int32} {x3 : Int32} {σ : St}  :
    Er (d + 1) 86 (71, [some (.ref x0), some (.int x1), some (.int x2), some (.int x3)], [], σ) (.inl (some (.int (0 : Int32))), σ, 0) := Er.sT (c2 := (72, [some (.ref x0), some (.int x1), some (.int x2), some (.int x3)], [.int (0 : Int32)], σ)) r86_71 rfl rfl <| (Er.ret r86_72 rfl ⟨_, _, rfl, rfl, rfl, rfl⟩)
/-! NumberModelsModel.swap(II)V -/
theorem tab_87 : tab 87 = tb87_0 := rfl
theorem ch87_0 {j : Nat} {r : Row} (h : tb87_0[j]? = some r) : rowAt 87 r.1 = some r := row_mem 87 (by decide) (by rw [tab_87]; exact List.mem_of_getElem? h)
theorem r87_0 : rowAt 87 0 = some (r0 0 1 (.iconst 0)) := ch87_0 (j := 0) rfl
theorem r87_1 : rowAt 87 1 = some (ra 1 2 (.istore_n 3) 3 0 0) := ch87_0 (j := 1) rfl
theorem r87_2 : rowAt 87 2 = some (ra 2 3 (.iload_n 3) 3 0 0) := ch87_0 (j := 2) rfl
theorem r87_3 : rowAt 87 3 = some (3, 5, .bipush 64, 0, 0, 0, 64, 0) := ch87_0 (j := 3) rfl
theorem r87_5 : rowAt 87 5 = some (ra 5 8 (.if_icmp .ge 57) 62 0 0) := ch87_0 (j := 4) rfl
theorem r87_8 : rowAt 87 8 = some (r0 8 9 (.aload_n 0)) := ch87_0 (j := 5) rfl
theorem r87_9 : rowAt 87 9 = some (ra 9 12 (.getfield 17) 4 5 877) := ch87_0 (j := 6) rfl
theorem r87_12 : rowAt 87 12 = some (12, 14, .bipush 64, 0, 0, 0, 64, 0) := ch87_0 (j := 7) rfl
theorem r87_14 : rowAt 87 14 = some (ra 14 15 (.iload_n 1) 1 0 0) := ch87_0 (j := 8) rfl
theorem r87_15 : rowAt 87 15 = some (r0 15 16 (.imul)) := ch87_0 (j := 9) rfl
theorem r87_16 : rowAt 87 16 = some (ra 16 17 (.iload_n 3) 3 0 0) := ch87_0 (j := 10) rfl
theorem r87_17 : rowAt 87 17 = some (r0 17 18 (.iadd)) := ch87_0 (j := 11) rfl
theorem r87_18 : rowAt 87 18 = some (r0 18 19 (.laload)) := ch87_0 (j := 12) rfl
theorem r87_19 : rowAt 87 19 = some (ra 19 21 (.lstore 4) 4 0 0) := ch87_0 (j := 13) rfl
theorem r87_21 : rowAt 87 21 = some (r0 21 22 (.aload_n 0)) := ch87_0 (j := 14) rfl
theorem r87_22 : rowAt 87 22 = some (ra 22 25 (.getfield 17) 4 5 877) := ch87_0 (j := 15) rfl
theorem r87_25 : rowAt 87 25 = some (25, 27, .bipush 64, 0, 0, 0, 64, 0) := ch87_0 (j := 16) rfl
theorem r87_27 : rowAt 87 27 = some (ra 27 28 (.iload_n 1) 1 0 0) := ch87_0 (j := 17) rfl
theorem r87_28 : rowAt 87 28 = some (r0 28 29 (.imul)) := ch87_0 (j := 18) rfl
theorem r87_29 : rowAt 87 29 = some (ra 29 30 (.iload_n 3) 3 0 0) := ch87_0 (j := 19) rfl
theorem r87_30 : rowAt 87 30 = some (r0 30 31 (.iadd)) := ch87_0 (j := 20) rfl
theorem r87_31 : rowAt 87 31 = some (r0 31 32 (.aload_n 0)) := ch87_0 (j := 21) rfl
theorem r87_32 : rowAt 87 32 = some (ra 32 35 (.getfield 17) 4 5 877) := ch87_0 (j := 22) rfl
theorem r87_35 : rowAt 87 35 = some (35, 37, .bipush 64, 0, 0, 0, 64, 0) := ch87_0 (j := 23) rfl
theorem r87_37 : rowAt 87 37 = some (ra 37 38 (.iload_n 2) 2 0 0) := ch87_0 (j := 24) rfl
theorem r87_38 : rowAt 87 38 = some (r0 38 39 (.imul)) := ch87_0 (j := 25) rfl
theorem r87_39 : rowAt 87 39 = some (ra 39 40 (.iload_n 3) 3 0 0) := ch87_0 (j := 26) rfl
theorem r87_40 : rowAt 87 40 = some (r0 40 41 (.iadd)) := ch87_0 (j := 27) rfl
theorem r87_41 : rowAt 87 41 = some (r0 41 42 (.laload)) := ch87_0 (j := 28) rfl
theorem r87_42 : rowAt 87 42 = some (r0 42 43 (.lastore)) := ch87_0 (j := 29) rfl
theorem r87_43 : rowAt 87 43 = some (r0 43 44 (.aload_n 0)) := ch87_0 (j := 30) rfl
theorem r87_44 : rowAt 87 44 = some (ra 44 47 (.getfield 17) 4 5 877) := ch87_0 (j := 31) rfl
theorem r87_47 : rowAt 87 47 = some (47, 49, .bipush 64, 0, 0, 0, 64, 0) := ch87_0 (j := 32) rfl
theorem r87_49 : rowAt 87 49 = some (ra 49 50 (.iload_n 2) 2 0 0) := ch87_0 (j := 33) rfl
theorem r87_50 : rowAt 87 50 = some (r0 50 51 (.imul)) := ch87_0 (j := 34) rfl
theorem r87_51 : rowAt 87 51 = some (ra 51 52 (.iload_n 3) 3 0 0) := ch87_0 (j := 35) rfl
theorem r87_52 : rowAt 87 52 = some (r0 52 53 (.iadd)) := ch87_0 (j := 36) rfl
theorem r87_53 : rowAt 87 53 = some (ra 53 55 (.lload 4) 4 0 0) := ch87_0 (j := 37) rfl
theorem r87_55 : rowAt 87 55 = some (r0 55 56 (.lastore)) := ch87_0 (j := 38) rfl
theorem r87_56 : rowAt 87 56 = some (56, 59, .iinc 3 1, 3, 0, 0, 1, 0) := ch87_0 (j := 39) rfl
theorem r87_59 : rowAt 87 59 = some (ra 59 62 (.goto (-57)) 2 0 0) := ch87_0 (j := 40) rfl
theorem r87_62 : rowAt 87 62 = some (r0 62 63 (.return_)) := ch87_0 (j := 41) rfl
theorem b87_0 {d : Nat} {q : Rs} {x0 : Nat} {x1 : Int32} {x2 : Int32} {σ : St} 
    (k : Er (d + 1) 87 (2, [some (.ref x0), some (.int x1), some (.int x2), some (.int (0 : Int32)), none, none], [], σ) q) :
    Er (d + 1) 87 (0, [some (.ref x0), some (.int x1), some (.int x2), none, none, none], [], σ) q := Er.sT (c2 := (1, [some (.ref x0), some (.int x1), some (.int x2), none, none, none], [.int (0 : Int32)], σ)) r87_0 rfl rfl <| Er.sT (c2 := (2, [some (.ref x0), some (.int x1), some (.int x2), some (.int (0 : Int32)), none, none], [], σ)) r87_1 rfl rfl <| k
theorem b87_2 {d : Nat} {q : Rs} {x0 : Nat} {x1 : Int32} {x2 : Int32} {x3 : Int32} {o4 : Option Value} {o5 : Option Value} {σ : St} 
    (kt : (64 : Int32) ≤ x3 → Er (d + 1) 87 (62, [some (.ref x0), some (.int x1), some (.int x2), some (.int x3), o4, o5], [], σ) q)
    (kf : ¬ (64 : Int32) ≤ x3 → Er (d + 1) 87 (8, [some (.ref x0), some (.int x1), some (.int x2), some (.int x3), o4, o5], [], σ) q) :
    Er (d + 1) 87 (2, [some (.ref x0), some (.int x1), some (.int x2), some (.int x3), o4, o5], [], σ) q := Er.sT (c2 := (3, [some (.ref x0), some (.int x1), some (.int x2), some (.int x3), o4, o5], [.int x3], σ)) r87_2 rfl rfl <| Er.sT (c2 := (5, [some (.ref x0), some (.int x1), some (.int x2), some (.int x3), o4, o5], [.int (64 : Int32), .int x3], σ)) r87_3 rfl rfl <| Er.sT (c2 := (brn .ge x3 (64 : Int32) 62 8, [some (.ref x0), some (.int x1), some (.int x2), some (.int x3), o4, o5], [], σ)) r87_5 rfl rfl <| (br_ge kt kf)
theorem b87_8 {d : Nat} {q : Rs} {x0 : Nat} {x1 : Int32} {x2 : Int32} {x3 : Int32} {o4 : Option Value} {o5 : Option Value} {σ : St} (h1 : x0 < 24 ∧ kls x0 = 5) (h2 : isL (fr x0 4) ∧ vp_in (((64 : Int32) * x1) + x3) (ale (fr x0 4))) (h3 : isL (fr x0 4) ∧ vp_in (((64 : Int32) * x2) + x3) (ale (fr x0 4)))
    (k : Er (d + 1) 87 (2, [some (.ref x0), some (.int x1), some (.int x2), some (.int (x3 + (1 : Int32))), some (.long (gal σ (fr x0 4) (((64 : Int32) * x1) + x3).toNatClampNeg)), none], [], (sal (sal σ (fr x0 4) (((64 : Int32) * x1) + x3).toNatClampNeg (gal σ (fr x0 4) (((64 : Int32) * x2) + x3).toNatClampNeg)) (fr x0 4) (((64 : Int32) * x2) + x3).toNatClampNeg (gal σ (fr x0 4) (((64 : Int32) * x1) + x3).toNatClampNeg))) q) :
    Er (d + 1) 87 (8, [some (.ref x0), some (.int x1), some (.int x2), some (.int x3), o4, o5], [], σ) q := Er.sT (c2 := (9, [some (.ref x0), some (.int x1), some (.int x2), some (.int x3), o4, o5], [.ref x0], σ)) r87_8 rfl rfl <| Er.st (P := (x0 < 24 ∧ kls x0 = 5)) (c2 := (12, [some (.ref x0), some (.int x1), some (.int x2), some (.int x3), o4, o5], [.ref (fr x0 4)], σ)) r87_9 rfl rfl h1 <| Er.sT (c2 := (14, [some (.ref x0), some (.int x1), some (.int x2), some (.int x3), o4, o5], [.int (64 : Int32), .ref (fr x0 4)], σ)) r87_12 rfl rfl <| Er.sT (c2 := (15, [some (.ref x0), some (.int x1), some (.int x2), some (.int x3), o4, o5], [.int x1, .int (64 : Int32), .ref (fr x0 4)], σ)) r87_14 rfl rfl <| Er.sT (c2 := (16, [some (.ref x0), some (.int x1), some (.int x2), some (.int x3), o4, o5], [.int ((64 : Int32) * x1), .ref (fr x0 4)], σ)) r87_15 rfl rfl <| Er.sT (c2 := (17, [some (.ref x0), some (.int x1), some (.int x2), some (.int x3), o4, o5], [.int x3, .int ((64 : Int32) * x1), .ref (fr x0 4)], σ)) r87_16 rfl rfl <| Er.sT (c2 := (18, [some (.ref x0), some (.int x1), some (.int x2), some (.int x3), o4, o5], [.int (((64 : Int32) * x1) + x3), .ref (fr x0 4)], σ)) r87_17 rfl rfl <| Er.st (P := (isL (fr x0 4) ∧ vp_in (((64 : Int32) * x1) + x3) (ale (fr x0 4)))) (c2 := (19, [some (.ref x0), some (.int x1), some (.int x2), some (.int x3), o4, o5], [.long (gal σ (fr x0 4) (((64 : Int32) * x1) + x3).toNatClampNeg)], σ)) r87_18 rfl rfl h2 <| Er.sT (c2 := (21, [some (.ref x0), some (.int x1), some (.int x2), some (.int x3), some (.long (gal σ (fr x0 4) (((64 : Int32) * x1) + x3).toNatClampNeg)), none], [], σ)) r87_19 rfl rfl <| Er.sT (c2 := (22, [some (.ref x0), some (.int x1), some (.int x2), some (.int x3), some (.long (gal σ (fr x0 4) (((64 : Int32) * x1) + x3).toNatClampNeg)), none], [.ref x0], σ)) r87_21 rfl rfl <| Er.st (P := (x0 < 24 ∧ kls x0 = 5)) (c2 := (25, [some (.ref x0), some (.int x1), some (.int x2), some (.int x3), some (.long (gal σ (fr x0 4) (((64 : Int32) * x1) + x3).toNatClampNeg)), none], [.ref (fr x0 4)], σ)) r87_22 rfl rfl h1 <| Er.sT (c2 := (27, [some (.ref x0), some (.int x1), some (.int x2), some (.int x3), some (.long (gal σ (fr x0 4) (((64 : Int32) * x1) + x3).toNatClampNeg)), none], [.int (64 : Int32), .ref (fr x0 4)], σ)) r87_25 rfl rfl <| Er.sT (c2 := (28, [some (.ref x0), some (.int x1), some (.int x2), some (.int x3), some (.long (gal σ (fr x0 4) (((64 : Int32) * x1) + x3).toNatClampNeg)), none], [.int x1, .int (64 : Int32), .ref (fr x0 4)], σ)) r87_27 rfl rfl <| Er.sT (c2 := (29, [some (.ref x0), some (.int x1), some (.int x2), some (.int x3), some (.long (gal σ (fr x0 4) (((64 : Int32) * x1) + x3).toNatClampNeg)), none], [.int ((64 : Int32) * x1), .ref (fr x0 4)], σ)) r87_28 rfl rfl <| Er.sT (c2 := (30, [some (.ref x0), some (.int x1), some (.int x2), some (.int x3), some (.long (gal σ (fr x0 4) (((64 : Int32) * x1) + x3).toNatClampNeg)), none], [.int x3, .int ((64 : Int32) * x1), .ref (fr x0 4)], σ)) r87_29 rfl rfl <| Er.sT (c2 := (31, [some (.ref x0), some (.int x1), some (.int x2), some (.int x3), some (.long (gal σ (fr x0 4) (((64 : Int32) * x1) + x3).toNatClampNeg)), none], [.int (((64 : Int32) * x1) + x3), .ref (fr x0 4)], σ)) r87_30 rfl rfl <| Er.sT (c2 := (32, [some (.ref x0), some (.int x1), some (.int x2), some (.int x3), some (.long (gal σ (fr x0 4) (((64 : Int32) * x1) + x3).toNatClampNeg)), none], [.ref x0, .int (((64 : Int32) * x1) + x3), .ref (fr x0 4)], σ)) r87_31 rfl rfl <| Er.st (P := (x0 < 24 ∧ kls x0 = 5)) (c2 := (35, [some (.ref x0), some (.int x1), some (.int x2), some (.int x3), some (.long (gal σ (fr x0 4) (((64 : Int32) * x1) + x3).toNatClampNeg)), none], [.ref (fr x0 4), .int (((64 : Int32) * x1) + x3), .ref (fr x0 4)], σ)) r87_32 rfl rfl h1 <| Er.sT (c2 := (37, [some (.ref x0), some (.int x1), some (.int x2), some (.int x3), some (.long (gal σ (fr x0 4) (((64 : Int32) * x1) + x3).toNatClampNeg)), none], [.int (64 : Int32), .ref (fr x0 4), .int (((64 : Int32) * x1) + x3), .ref (fr x0 4)], σ)) r87_35 rfl rfl <| Er.sT (c2 := (38, [some (.ref x0), some (.int x1), some (.int x2), some (.int x3), some (.long (gal σ (fr x0 4) (((64 : Int32) * x1) + x3).toNatClampNeg)), none], [.int x2, .int (64 : Int32), .ref (fr x0 4), .int (((64 : Int32) * x1) + x3), .ref (fr x0 4)], σ)) r87_37 rfl rfl <| Er.sT (c2 := (39, [some (.ref x0), some (.int x1), some (.int x2), some (.int x3), some (.long (gal σ (fr x0 4) (((64 : Int32) * x1) + x3).toNatClampNeg)), none], [.int ((64 : Int32) * x2), .ref (fr x0 4), .int (((64 : Int32) * x1) + x3), .ref (fr x0 4)], σ)) r87_38 rfl rfl <| Er.sT (c2 := (40, [some (.ref x0), some (.int x1), some (.int x2), some (.int x3), some (.long (gal σ (fr x0 4) (((64 : Int32) * x1) + x3).toNatClampNeg)), none], [.int x3, .int ((64 : Int32) * x2), .ref (fr x0 4), .int (((64 : Int32) * x1) + x3), .ref (fr x0 4)], σ)) r87_39 rfl rfl <| Er.sT (c2 := (41, [some (.ref x0), some (.int x1), some (.int x2), some (.int x3), some (.long (gal σ (fr x0 4) (((64 : Int32) * x1) + x3).toNatClampNeg)), none], [.int (((64 : Int32) * x2) + x3), .ref (fr x0 4), .int (((64 : Int32) * x1) + x3), .ref (fr x0 4)], σ)) r87_40 rfl rfl <| Er.st (P := (isL (fr x0 4) ∧ vp_in (((64 : Int32) * x2) + x3) (ale (fr x0 4)))) (c2 := (42, [some (.ref x0), some (.int x1), some (.int x2), some (.int x3), some (.long (gal σ (fr x0 4) (((64 : Int32) * x1) + x3).toNatClampNeg)), none], [.long (gal σ (fr x0 4) (((64 : Int32) * x2) + x3).toNatClampNeg), .int (((64 : Int32) * x1) + x3), .ref (fr x0 4)], σ)) r87_41 rfl rfl h3 <| Er.st (P := (isL (fr x0 4) ∧ vp_in (((64 : Int32) * x1) + x3) (ale (fr x0 4)))) (c2 := (43, [some (.ref x0), some (.int x1), some (.int x2), some (.int x3), some (.long (gal σ (fr x0 4) (((64 : Int32) * x1) + x3).toNatClampNeg)), none], [], (sal σ (fr x0 4) (((64 : Int32) * x1) + x3).toNatClampNeg (gal σ (fr x0 4) (((64 : Int32) * x2) + x3).toNatClampNeg)))) r87_42 rfl rfl h2 <| Er.sT (c2 := (44, [some (.ref x0), some (.int x1), some (.int x2), some (.int x3), some (.long (gal σ (fr x0 4) (((64 : Int32) * x1) + x3).toNatClampNeg)), none], [.ref x0], (sal σ (fr x0 4) (((64 : Int32) * x1) + x3).toNatClampNeg (gal σ (fr x0 4) (((64 : Int32) * x2) + x3).toNatClampNeg)))) r87_43 rfl rfl <| Er.st (P := (x0 < 24 ∧ kls x0 = 5)) (c2 := (47, [some (.ref x0), some (.int x1), some (.int x2), some (.int x3), some (.long (gal σ (fr x0 4) (((64 : Int32) * x1) + x3).toNatClampNeg)), none], [.ref (fr x0 4)], (sal σ (fr x0 4) (((64 : Int32) * x1) + x3).toNatClampNeg (gal σ (fr x0 4) (((64 : Int32) * x2) + x3).toNatClampNeg)))) r87_44 rfl rfl h1 <| Er.sT (c2 := (49, [some (.ref x0), some (.int x1), some (.int x2), some (.int x3), some (.long (gal σ (fr x0 4) (((64 : Int32) * x1) + x3).toNatClampNeg)), none], [.int (64 : Int32), .ref (fr x0 4)], (sal σ (fr x0 4) (((64 : Int32) * x1) + x3).toNatClampNeg (gal σ (fr x0 4) (((64 : Int32) * x2) + x3).toNatClampNeg)))) r87_47 rfl rfl <| Er.sT (c2 := (50, [some (.ref x0), some (.int x1), some (.int x2), some (.int x3), some (.long (gal σ (fr x0 4) (((64 : Int32) * x1) + x3).toNatClampNeg)), none], [.int x2, .int (64 : Int32), .ref (fr x0 4)], (sal σ (fr x0 4) (((64 : Int32) * x1) + x3).toNatClampNeg (gal σ (fr x0 4) (((64 : Int32) * x2) + x3).toNatClampNeg)))) r87_49 rfl rfl <| Er.sT (c2 := (51, [some (.ref x0), some (.int x1), some (.int x2), some (.int x3), some (.long (gal σ (fr x0 4) (((64 : Int32) * x1) + x3).toNatClampNeg)), none], [.int ((64 : Int32) * x2), .ref (fr x0 4)], (sal σ (fr x0 4) (((64 : Int32) * x1) + x3).toNatClampNeg (gal σ (fr x0 4) (((64 : Int32) * x2) + x3).toNatClampNeg)))) r87_50 rfl rfl <| Er.sT (c2 := (52, [some (.ref x0), some (.int x1), some (.int x2), some (.int x3), some (.long (gal σ (fr x0 4) (((64 : Int32) * x1) + x3).toNatClampNeg)), none], [.int x3, .int ((64 : Int32) * x2), .ref (fr x0 4)], (sal σ (fr x0 4) (((64 : Int32) * x1) + x3).toNatClampNeg (gal σ (fr x0 4) (((64 : Int32) * x2) + x3).toNatClampNeg)))) r87_51 rfl rfl <| Er.sT (c2 := (53, [some (.ref x0), some (.int x1), some (.int x2), some (.int x3), some (.long (gal σ (fr x0 4) (((64 : Int32) * x1) + x3).toNatClampNeg)), none], [.int (((64 : Int32) * x2) + x3), .ref (fr x0 4)], (sal σ (fr x0 4) (((64 : Int32) * x1) + x3).toNatClampNeg (gal σ (fr x0 4) (((64 : Int32) * x2) + x3).toNatClampNeg)))) r87_52 rfl rfl <| Er.sT (c2 := (55, [some (.ref x0), some (.int x1), some (.int x2), some (.int x3), some (.long (gal σ (fr x0 4) (((64 : Int32) * x1) + x3).toNatClampNeg)), none], [.long (gal σ (fr x0 4) (((64 : Int32) * x1) + x3).toNatClampNeg), .int (((64 : Int32) * x2) + x3), .ref (fr x0 4)], (sal σ (fr x0 4) (((64 : Int32) * x1) + x3).toNatClampNeg (gal σ (fr x0 4) (((64 : Int32) * x2) + x3).toNatClampNeg)))) r87_53 rfl rfl <| Er.st (P := (isL (fr x0 4) ∧ vp_in (((64 : Int32) * x2) + x3) (ale (fr x0 4)))) (c2 := (56, [some (.ref x0), some (.int x1), some (.int x2), some (.int x3), some (.long (gal σ (fr x0 4) (((64 : Int32) * x1) + x3).toNatClampNeg)), none], [], (sal (sal σ (fr x0 4) (((64 : Int32) * x1) + x3).toNatClampNeg (gal σ (fr x0 4) (((64 : Int32) * x2) + x3).toNatClampNeg)) (fr x0 4) (((64 : Int32) * x2) + x3).toNatClampNeg (gal σ (fr x0 4) (((64 : Int32) * x1) + x3).toNatClampNeg)))) r87_55 rfl rfl h3 <| Er.sT (c2 := (59, [some (.ref x0), some (.int x1), some (.int x2), some (.int (x3 + (1 : Int32))), some (.long (gal σ (fr x0 4) (((64 : Int32) * x1) + x3).toNatClampNeg)), none], [], (sal (sal σ (fr x0 4) (((64 : Int32) * x1) + x3).toNatClampNeg (gal σ (fr x0 4) (((64 : Int32) * x2) + x3).toNatClampNeg)) (fr x0 4) (((64 : Int32) * x2) + x3).toNatClampNeg (gal σ (fr x0 4) (((64 : Int32) * x1) + x3).toNatClampNeg)))) r87_56 rfl rfl <| Er.sT (c2 := (2, [some (.ref x0), some (.int x1), some (.int x2), some (.int (x3 + (1 : Int32))), some (.long (gal σ (fr x0 4) (((64 : Int32) * x1) + x3).toNatClampNeg)), none], [], (sal (sal σ (fr x0 4) (((64 : Int32) * x1) + x3).toNatClampNeg (gal σ (fr x0 4) (((64 : Int32) * x2) + x3).toNatClampNeg)) (fr x0 4) (((64 : Int32) * x2) + x3).toNatClampNeg (gal σ (fr x0 4) (((64 : Int32) * x1) + x3).toNatClampNeg)))) r87_59 rfl rfl <| k
theorem b87_62 {d : Nat} {x0 : Nat} {x1 : Int32} {x2 : Int32} {x3 : Int32} {o4 : Option Value} {o5 : Option Value} {σ : St}  :
    Er (d + 1) 87 (62, [some (.ref x0), some (.int x1), some (.int x2), some (.int x3), o4, o5], [], σ) (.inl none, σ, 0) := (Er.ret r87_62 rfl ⟨rfl, rfl, rfl⟩)
/-! NumberModelsModel.take(II)V -/
theorem tab_88 : tab 88 = tb88_0 := rfl
theorem ch88_0 {j : Nat} {r : Row} (h : tb88_0[j]? = some r) : rowAt 88 r.1 = some r := row_mem 88 (by decide) (by rw [tab_88]; exact List.mem_of_getElem? h)
theorem r88_0 : rowAt 88 0 = some (r0 0 1 (.lconst 0)) := ch88_0 (j := 0) rfl
theorem r88_1 : rowAt 88 1 = some (ra 1 2 (.lstore_n 3) 3 0 0) := ch88_0 (j := 1) rfl
theorem r88_2 : rowAt 88 2 = some (r0 2 3 (.iconst 0)) := ch88_0 (j := 2) rfl
theorem r88_3 : rowAt 88 3 = some (ra 3 5 (.istore 5) 5 0 0) := ch88_0 (j := 3) rfl
theorem r88_5 : rowAt 88 5 = some (ra 5 7 (.iload 5) 5 0 0) := ch88_0 (j := 4) rfl
theorem r88_7 : rowAt 88 7 = some (7, 9, .bipush 64, 0, 0, 0, 64, 0) := ch88_0 (j := 5) rfl
theorem r88_9 : rowAt 88 9 = some (ra 9 12 (.if_icmp .ge 69) 78 0 0) := ch88_0 (j := 6) rfl
theorem r88_12 : rowAt 88 12 = some (r0 12 13 (.aload_n 0)) := ch88_0 (j := 7) rfl
theorem r88_13 : rowAt 88 13 = some (ra 13 16 (.getfield 17) 4 5 877) := ch88_0 (j := 8) rfl
theorem r88_16 : rowAt 88 16 = some (16, 18, .bipush 64, 0, 0, 0, 64, 0) := ch88_0 (j := 9) rfl
theorem r88_18 : rowAt 88 18 = some (ra 18 19 (.iload_n 1) 1 0 0) := ch88_0 (j := 10) rfl
theorem r88_19 : rowAt 88 19 = some (r0 19 20 (.imul)) := ch88_0 (j := 11) rfl
theorem r88_20 : rowAt 88 20 = some (ra 20 22 (.iload 5) 5 0 0) := ch88_0 (j := 12) rfl
theorem r88_22 : rowAt 88 22 = some (r0 22 23 (.iadd)) := ch88_0 (j := 13) rfl
theorem r88_23 : rowAt 88 23 = some (r0 23 24 (.laload)) := ch88_0 (j := 14) rfl
theorem r88_24 : rowAt 88 24 = some (r0 24 25 (.aload_n 0)) := ch88_0 (j := 15) rfl
theorem r88_25 : rowAt 88 25 = some (ra 25 28 (.getfield 17) 4 5 877) := ch88_0 (j := 16) rfl
theorem r88_28 : rowAt 88 28 = some (28, 30, .bipush 64, 0, 0, 0, 64, 0) := ch88_0 (j := 17) rfl
theorem r88_30 : rowAt 88 30 = some (ra 30 31 (.iload_n 2) 2 0 0) := ch88_0 (j := 18) rfl
theorem r88_31 : rowAt 88 31 = some (r0 31 32 (.imul)) := ch88_0 (j := 19) rfl
theorem r88_32 : rowAt 88 32 = some (ra 32 34 (.iload 5) 5 0 0) := ch88_0 (j := 20) rfl
theorem r88_34 : rowAt 88 34 = some (r0 34 35 (.iadd)) := ch88_0 (j := 21) rfl
theorem r88_35 : rowAt 88 35 = some (r0 35 36 (.laload)) := ch88_0 (j := 22) rfl
theorem r88_36 : rowAt 88 36 = some (r0 36 37 (.lsub)) := ch88_0 (j := 23) rfl
theorem r88_37 : rowAt 88 37 = some (ra 37 38 (.lload_n 3) 3 0 0) := ch88_0 (j := 24) rfl
theorem r88_38 : rowAt 88 38 = some (r0 38 39 (.lsub)) := ch88_0 (j := 25) rfl
theorem r88_39 : rowAt 88 39 = some (ra 39 41 (.lstore 6) 6 0 0) := ch88_0 (j := 26) rfl
theorem r88_41 : rowAt 88 41 = some (r0 41 42 (.aload_n 0)) := ch88_0 (j := 27) rfl
theorem r88_42 : rowAt 88 42 = some (ra 42 45 (.getfield 17) 4 5 877) := ch88_0 (j := 28) rfl
theorem r88_45 : rowAt 88 45 = some (45, 47, .bipush 64, 0, 0, 0, 64, 0) := ch88_0 (j := 29) rfl
theorem r88_47 : rowAt 88 47 = some (ra 47 48 (.iload_n 1) 1 0 0) := ch88_0 (j := 30) rfl
theorem r88_48 : rowAt 88 48 = some (r0 48 49 (.imul)) := ch88_0 (j := 31) rfl
theorem r88_49 : rowAt 88 49 = some (ra 49 51 (.iload 5) 5 0 0) := ch88_0 (j := 32) rfl
theorem r88_51 : rowAt 88 51 = some (r0 51 52 (.iadd)) := ch88_0 (j := 33) rfl
theorem r88_52 : rowAt 88 52 = some (ra 52 54 (.lload 6) 6 0 0) := ch88_0 (j := 34) rfl
theorem r88_54 : rowAt 88 54 = some (54, 57, .ldc2_w 28, 0, 0, 923, 0, 4294967295) := ch88_0 (j := 35) rfl
theorem r88_57 : rowAt 88 57 = some (r0 57 58 (.land)) := ch88_0 (j := 36) rfl
theorem r88_58 : rowAt 88 58 = some (r0 58 59 (.lastore)) := ch88_0 (j := 37) rfl
theorem r88_59 : rowAt 88 59 = some (ra 59 61 (.lload 6) 6 0 0) := ch88_0 (j := 38) rfl
theorem r88_61 : rowAt 88 61 = some (r0 61 62 (.lconst 0)) := ch88_0 (j := 39) rfl
theorem r88_62 : rowAt 88 62 = some (r0 62 63 (.lcmp)) := ch88_0 (j := 40) rfl
theorem r88_63 : rowAt 88 63 = some (ra 63 66 (.ifCond .ge 7) 70 0 0) := ch88_0 (j := 41) rfl
theorem r88_66 : rowAt 88 66 = some (66, 67, .lconst 1, 0, 0, 0, 0, 1) := ch88_0 (j := 42) rfl
theorem r88_67 : rowAt 88 67 = some (ra 67 70 (.goto 4) 71 0 0) := ch88_0 (j := 43) rfl
theorem r88_70 : rowAt 88 70 = some (r0 70 71 (.lconst 0)) := ch88_0 (j := 44) rfl
theorem r88_71 : rowAt 88 71 = some (ra 71 72 (.lstore_n 3) 3 0 0) := ch88_0 (j := 45) rfl
theorem r88_72 : rowAt 88 72 = some (72, 75, .iinc 5 1, 5, 0, 0, 1, 0) := ch88_0 (j := 46) rfl
theorem r88_75 : rowAt 88 75 = some (ra 75 78 (.goto (-70)) 5 0 0) := ch88_0 (j := 47) rfl
theorem r88_78 : rowAt 88 78 = some (r0 78 79 (.return_)) := ch88_0 (j := 48) rfl
theorem b88_0 {d : Nat} {q : Rs} {x0 : Nat} {x1 : Int32} {x2 : Int32} {σ : St} 
    (k : Er (d + 1) 88 (5, [some (.ref x0), some (.int x1), some (.int x2), some (.long (0 : Int64)), none, some (.int (0 : Int32)), none, none], [], σ) q) :
    Er (d + 1) 88 (0, [some (.ref x0), some (.int x1), some (.int x2), none, none, none, none, none], [], σ) q := Er.sT (c2 := (1, [some (.ref x0), some (.int x1), some (.int x2), none, none, none, none, none], [.long (0 : Int64)], σ)) r88_0 rfl rfl <| Er.sT (c2 := (2, [some (.ref x0), some (.int x1), some (.int x2), some (.long (0 : Int64)), none, none, none, none], [], σ)) r88_1 rfl rfl <| Er.sT (c2 := (3, [some (.ref x0), some (.int x1), some (.int x2), some (.long (0 : Int64)), none, none, none, none], [.int (0 : Int32)], σ)) r88_2 rfl rfl <| Er.sT (c2 := (5, [some (.ref x0), some (.int x1), some (.int x2), some (.long (0 : Int64)), none, some (.int (0 : Int32)), none, none], [], σ)) r88_3 rfl rfl <| k
theorem b88_5 {d : Nat} {q : Rs} {x0 : Nat} {x1 : Int32} {x2 : Int32} {x3 : Int64} {x5 : Int32} {o6 : Option Value} {o7 : Option Value} {σ : St} 
    (kt : (64 : Int32) ≤ x5 → Er (d + 1) 88 (78, [some (.ref x0), some (.int x1), some (.int x2), some (.long x3), none, some (.int x5), o6, o7], [], σ) q)
    (kf : ¬ (64 : Int32) ≤ x5 → Er (d + 1) 88 (12, [some (.ref x0), some (.int x1), some (.int x2), some (.long x3), none, some (.int x5), o6, o7], [], σ) q) :
    Er (d + 1) 88 (5, [some (.ref x0), some (.int x1), some (.int x2), some (.long x3), none, some (.int x5), o6, o7], [], σ) q := Er.sT (c2 := (7, [some (.ref x0), some (.int x1), some (.int x2), some (.long x3), none, some (.int x5), o6, o7], [.int x5], σ)) r88_5 rfl rfl <| Er.sT (c2 := (9, [some (.ref x0), some (.int x1), some (.int x2), some (.long x3), none, some (.int x5), o6, o7], [.int (64 : Int32), .int x5], σ)) r88_7 rfl rfl <| Er.sT (c2 := (brn .ge x5 (64 : Int32) 78 12, [some (.ref x0), some (.int x1), some (.int x2), some (.long x3), none, some (.int x5), o6, o7], [], σ)) r88_9 rfl rfl <| (br_ge kt kf)
theorem b88_12 {d : Nat} {q : Rs} {x0 : Nat} {x1 : Int32} {x2 : Int32} {x3 : Int64} {x5 : Int32} {o6 : Option Value} {o7 : Option Value} {σ : St} (h1 : x0 < 24 ∧ kls x0 = 5) (h2 : isL (fr x0 4) ∧ vp_in (((64 : Int32) * x1) + x5) (ale (fr x0 4))) (h3 : isL (fr x0 4) ∧ vp_in (((64 : Int32) * x2) + x5) (ale (fr x0 4)))
    (kt : ¬ (((gal σ (fr x0 4) (((64 : Int32) * x1) + x5).toNatClampNeg) - (gal σ (fr x0 4) (((64 : Int32) * x2) + x5).toNatClampNeg)) - x3) < (0 : Int64) → Er (d + 1) 88 (70, [some (.ref x0), some (.int x1), some (.int x2), some (.long x3), none, some (.int x5), some (.long (((gal σ (fr x0 4) (((64 : Int32) * x1) + x5).toNatClampNeg) - (gal σ (fr x0 4) (((64 : Int32) * x2) + x5).toNatClampNeg)) - x3)), none], [], (sal σ (fr x0 4) (((64 : Int32) * x1) + x5).toNatClampNeg ((((gal σ (fr x0 4) (((64 : Int32) * x1) + x5).toNatClampNeg) - (gal σ (fr x0 4) (((64 : Int32) * x2) + x5).toNatClampNeg)) - x3) &&& (4294967295 : Int64)))) q)
    (kf : (((gal σ (fr x0 4) (((64 : Int32) * x1) + x5).toNatClampNeg) - (gal σ (fr x0 4) (((64 : Int32) * x2) + x5).toNatClampNeg)) - x3) < (0 : Int64) → Er (d + 1) 88 (66, [some (.ref x0), some (.int x1), some (.int x2), some (.long x3), none, some (.int x5), some (.long (((gal σ (fr x0 4) (((64 : Int32) * x1) + x5).toNatClampNeg) - (gal σ (fr x0 4) (((64 : Int32) * x2) + x5).toNatClampNeg)) - x3)), none], [], (sal σ (fr x0 4) (((64 : Int32) * x1) + x5).toNatClampNeg ((((gal σ (fr x0 4) (((64 : Int32) * x1) + x5).toNatClampNeg) - (gal σ (fr x0 4) (((64 : Int32) * x2) + x5).toNatClampNeg)) - x3) &&& (4294967295 : Int64)))) q) :
    Er (d + 1) 88 (12, [some (.ref x0), some (.int x1), some (.int x2), some (.long x3), none, some (.int x5), o6, o7], [], σ) q := Er.sT (c2 := (13, [some (.ref x0), some (.int x1), some (.int x2), some (.long x3), none, some (.int x5), o6, o7], [.ref x0], σ)) r88_12 rfl rfl <| Er.st (P := (x0 < 24 ∧ kls x0 = 5)) (c2 := (16, [some (.ref x0), some (.int x1), some (.int x2), some (.long x3), none, some (.int x5), o6, o7], [.ref (fr x0 4)], σ)) r88_13 rfl rfl h1 <| Er.sT (c2 := (18, [some (.ref x0), some (.int x1), some (.int x2), some (.long x3), none, some (.int x5), o6, o7], [.int (64 : Int32), .ref (fr x0 4)], σ)) r88_16 rfl rfl <| Er.sT (c2 := (19, [some (.ref x0), some (.int x1), some (.int x2), some (.long x3), none, some (.int x5), o6, o7], [.int x1, .int (64 : Int32), .ref (fr x0 4)], σ)) r88_18 rfl rfl <| Er.sT (c2 := (20, [some (.ref x0), some (.int x1), some (.int x2), some (.long x3), none, some (.int x5), o6, o7], [.int ((64 : Int32) * x1), .ref (fr x0 4)], σ)) r88_19 rfl rfl <| Er.sT (c2 := (22, [some (.ref x0), some (.int x1), some (.int x2), some (.long x3), none, some (.int x5), o6, o7], [.int x5, .int ((64 : Int32) * x1), .ref (fr x0 4)], σ)) r88_20 rfl rfl <| Er.sT (c2 := (23, [some (.ref x0), some (.int x1), some (.int x2), some (.long x3), none, some (.int x5), o6, o7], [.int (((64 : Int32) * x1) + x5), .ref (fr x0 4)], σ)) r88_22 rfl rfl <| Er.st (P := (isL (fr x0 4) ∧ vp_in (((64 : Int32) * x1) + x5) (ale (fr x0 4)))) (c2 := (24, [some (.ref x0), some (.int x1), some (.int x2), some (.long x3), none, some (.int x5), o6, o7], [.long (gal σ (fr x0 4) (((64 : Int32) * x1) + x5).toNatClampNeg)], σ)) r88_23 rfl rfl h2 <| Er.sT (c2 := (25, [some (.ref x0), some (.int x1), some (.int x2), some (.long x3), none, some (.int x5), o6, o7], [.ref x0, .long (gal σ (fr x0 4) (((64 : Int32) * x1) + x5).toNatClampNeg)], σ)) r88_24 rfl rfl <| Er.st (P := (x0 < 24 ∧ kls x0 = 5)) (c2 := (28, [some (.ref x0), some (.int x1), some (.int x2), some (.long x3), none, some (.int x5), o6, o7], [.ref (fr x0 4), .long (gal σ (fr x0 4) (((64 : Int32) * x1) + x5).toNatClampNeg)], σ)) r88_25 rfl rfl h1 <| Er.sT (c2 := (30, [some (.ref x0), some (.int x1), some (.int x2), some (.long x3), none, some (.int x5), o6, o7], [.int (64 : Int32), .ref (fr x0 4), .long (gal σ (fr x0 4) (((64 : Int32) * x1) + x5).toNatClampNeg)], σ)) r88_28 rfl rfl <| Er.sT (c2 := (31, [some (.ref x0), some (.int x1), some (.int x2), some (.long x3), none, some (.int x5), o6, o7], [.int x2, .int (64 : Int32), .ref (fr x0 4), .long (gal σ (fr x0 4) (((64 : Int32) * x1) + x5).toNatClampNeg)], σ)) r88_30 rfl rfl <| Er.sT (c2 := (32, [some (.ref x0), some (.int x1), some (.int x2), some (.long x3), none, some (.int x5), o6, o7], [.int ((64 : Int32) * x2), .ref (fr x0 4), .long (gal σ (fr x0 4) (((64 : Int32) * x1) + x5).toNatClampNeg)], σ)) r88_31 rfl rfl <| Er.sT (c2 := (34, [some (.ref x0), some (.int x1), some (.int x2), some (.long x3), none, some (.int x5), o6, o7], [.int x5, .int ((64 : Int32) * x2), .ref (fr x0 4), .long (gal σ (fr x0 4) (((64 : Int32) * x1) + x5).toNatClampNeg)], σ)) r88_32 rfl rfl <| Er.sT (c2 := (35, [some (.ref x0), some (.int x1), some (.int x2), some (.long x3), none, some (.int x5), o6, o7], [.int (((64 : Int32) * x2) + x5), .ref (fr x0 4), .long (gal σ (fr x0 4) (((64 : Int32) * x1) + x5).toNatClampNeg)], σ)) r88_34 rfl rfl <| Er.st (P := (isL (fr x0 4) ∧ vp_in (((64 : Int32) * x2) + x5) (ale (fr x0 4)))) (c2 := (36, [some (.ref x0), some (.int x1), some (.int x2), some (.long x3), none, some (.int x5), o6, o7], [.long (gal σ (fr x0 4) (((64 : Int32) * x2) + x5).toNatClampNeg), .long (gal σ (fr x0 4) (((64 : Int32) * x1) + x5).toNatClampNeg)], σ)) r88_35 rfl rfl h3 <| Er.sT (c2 := (37, [some (.ref x0), some (.int x1), some (.int x2), some (.long x3), none, some (.int x5), o6, o7], [.long ((gal σ (fr x0 4) (((64 : Int32) * x1) + x5).toNatClampNeg) - (gal σ (fr x0 4) (((64 : Int32) * x2) + x5).toNatClampNeg))], σ)) r88_36 rfl rfl <| Er.sT (c2 := (38, [some (.ref x0), some (.int x1), some (.int x2), some (.long x3), none, some (.int x5), o6, o7], [.long x3, .long ((gal σ (fr x0 4) (((64 : Int32) * x1) + x5).toNatClampNeg) - (gal σ (fr x0 4) (((64 : Int32) * x2) + x5).toNatClampNeg))], σ)) r88_37 rfl rfl <| Er.sT (c2 := (39, [some (.ref x0), some (.int x1), some (.int x2), some (.long x3), none, some (.int x5), o6, o7], [.long (((gal σ (fr x0 4) (((64 : Int32) * x1) + x5).toNatClampNeg) - (gal σ (fr x0 4) (((64 : Int32) * x2) + x5).toNatClampNeg)) - x3)], σ)) r88_38 rfl rfl <| Er.sT (c2 := (41, [some (.ref x0), some (.int x1), some (.int x2), some (.long x3), none, some (.int x5), some (.long (((gal σ (fr x0 4) (((64 : Int32) * x1) + x5).toNatClampNeg) - (gal σ (fr x0 4) (((64 : Int32) * x2) + x5).toNatClampNeg)) - x3)), none], [], σ)) r88_39 rfl rfl <| Er.sT (c2 := (42, [some (.ref x0), some (.int x1), some (.int x2), some (.long x3), none, some (.int x5), some (.long (((gal σ (fr x0 4) (((64 : Int32) * x1) + x5).toNatClampNeg) - (gal σ (fr x0 4) (((64 : Int32) * x2) + x5).toNatClampNeg)) - x3)), none], [.ref x0], σ)) r88_41 rfl rfl <| Er.st (P := (x0 < 24 ∧ kls x0 = 5)) (c2 := (45, [some (.ref x0), some (.int x1), some (.int x2), some (.long x3), none, some (.int x5), some (.long (((gal σ (fr x0 4) (((64 : Int32) * x1) + x5).toNatClampNeg) - (gal σ (fr x0 4) (((64 : Int32) * x2) + x5).toNatClampNeg)) - x3)), none], [.ref (fr x0 4)], σ)) r88_42 rfl rfl h1 <| Er.sT (c2 := (47, [some (.ref x0), some (.int x1), some (.int x2), some (.long x3), none, some (.int x5), some (.long (((gal σ (fr x0 4) (((64 : Int32) * x1) + x5).toNatClampNeg) - (gal σ (fr x0 4) (((64 : Int32) * x2) + x5).toNatClampNeg)) - x3)), none], [.int (64 : Int32), .ref (fr x0 4)], σ)) r88_45 rfl rfl <| Er.sT (c2 := (48, [some (.ref x0), some (.int x1), some (.int x2), some (.long x3), none, some (.int x5), some (.long (((gal σ (fr x0 4) (((64 : Int32) * x1) + x5).toNatClampNeg) - (gal σ (fr x0 4) (((64 : Int32) * x2) + x5).toNatClampNeg)) - x3)), none], [.int x1, .int (64 : Int32), .ref (fr x0 4)], σ)) r88_47 rfl rfl <| Er.sT (c2 := (49, [some (.ref x0), some (.int x1), some (.int x2), some (.long x3), none, some (.int x5), some (.long (((gal σ (fr x0 4) (((64 : Int32) * x1) + x5).toNatClampNeg) - (gal σ (fr x0 4) (((64 : Int32) * x2) + x5).toNatClampNeg)) - x3)), none], [.int ((64 : Int32) * x1), .ref (fr x0 4)], σ)) r88_48 rfl rfl <| Er.sT (c2 := (51, [some (.ref x0), some (.int x1), some (.int x2), some (.long x3), none, some (.int x5), some (.long (((gal σ (fr x0 4) (((64 : Int32) * x1) + x5).toNatClampNeg) - (gal σ (fr x0 4) (((64 : Int32) * x2) + x5).toNatClampNeg)) - x3)), none], [.int x5, .int ((64 : Int32) * x1), .ref (fr x0 4)], σ)) r88_49 rfl rfl <| Er.sT (c2 := (52, [some (.ref x0), some (.int x1), some (.int x2), some (.long x3), none, some (.int x5), some (.long (((gal σ (fr x0 4) (((64 : Int32) * x1) + x5).toNatClampNeg) - (gal σ (fr x0 4) (((64 : Int32) * x2) + x5).toNatClampNeg)) - x3)), none], [.int (((64 : Int32) * x1) + x5), .ref (fr x0 4)], σ)) r88_51 rfl rfl <| Er.sT (c2 := (54, [some (.ref x0), some (.int x1), some (.int x2), some (.long x3), none, some (.int x5), some (.long (((gal σ (fr x0 4) (((64 : Int32) * x1) + x5).toNatClampNeg) - (gal σ (fr x0 4) (((64 : Int32) * x2) + x5).toNatClampNeg)) - x3)), none], [.long (((gal σ (fr x0 4) (((64 : Int32) * x1) + x5).toNatClampNeg) - (gal σ (fr x0 4) (((64 : Int32) * x2) + x5).toNatClampNeg)) - x3), .int (((64 : Int32) * x1) + x5), .ref (fr x0 4)], σ)) r88_52 rfl rfl <| Er.sT (c2 := (57, [some (.ref x0), some (.int x1), some (.int x2), some (.long x3), none, some (.int x5), some (.long (((gal σ (fr x0 4) (((64 : Int32) * x1) + x5).toNatClampNeg) - (gal σ (fr x0 4) (((64 : Int32) * x2) + x5).toNatClampNeg)) - x3)), none], [.long (4294967295 : Int64), .long (((gal σ (fr x0 4) (((64 : Int32) * x1) + x5).toNatClampNeg) - (gal σ (fr x0 4) (((64 : Int32) * x2) + x5).toNatClampNeg)) - x3), .int (((64 : Int32) * x1) + x5), .ref (fr x0 4)], σ)) r88_54 rfl rfl <| Er.sT (c2 := (58, [some (.ref x0), some (.int x1), some (.int x2), some (.long x3), none, some (.int x5), some (.long (((gal σ (fr x0 4) (((64 : Int32) * x1) + x5).toNatClampNeg) - (gal σ (fr x0 4) (((64 : Int32) * x2) + x5).toNatClampNeg)) - x3)), none], [.long ((((gal σ (fr x0 4) (((64 : Int32) * x1) + x5).toNatClampNeg) - (gal σ (fr x0 4) (((64 : Int32) * x2) + x5).toNatClampNeg)) - x3) &&& (4294967295 : Int64)), .int (((64 : Int32) * x1) + x5), .ref (fr x0 4)], σ)) r88_57 rfl rfl <| Er.st (P := (isL (fr x0 4) ∧ vp_in (((64 : Int32) * x1) + x5) (ale (fr x0 4)))) (c2 := (59, [some (.ref x0), some (.int x1), some (.int x2), some (.long x3), none, some (.int x5), some (.long (((gal σ (fr x0 4) (((64 : Int32) * x1) + x5).toNatClampNeg) - (gal σ (fr x0 4) (((64 : Int32) * x2) + x5).toNatClampNeg)) - x3)), none], [], (sal σ (fr x0 4) (((64 : Int32) * x1) + x5).toNatClampNeg ((((gal σ (fr x0 4) (((64 : Int32) * x1) + x5).toNatClampNeg) - (gal σ (fr x0 4) (((64 : Int32) * x2) + x5).toNatClampNeg)) - x3) &&& (4294967295 : Int64))))) r88_58 rfl rfl h2 <| Er.sT (c2 := (61, [some (.ref x0), some (.int x1), some (.int x2), some (.long x3), none, some (.int x5), some (.long (((gal σ (fr x0 4) (((64 : Int32) * x1) + x5).toNatClampNeg) - (gal σ (fr x0 4) (((64 : Int32) * x2) + x5).toNatClampNeg)) - x3)), none], [.long (((gal σ (fr x0 4) (((64 : Int32) * x1) + x5).toNatClampNeg) - (gal σ (fr x0 4) (((64 : Int32) * x2) + x5).toNatClampNeg)) - x3)], (sal σ (fr x0 4) (((64 : Int32) * x1) + x5).toNatClampNeg ((((gal σ (fr x0 4) (((64 : Int32) * x1) + x5).toNatClampNeg) - (gal σ (fr x0 4) (((64 : Int32) * x2) + x5).toNatClampNeg)) - x3) &&& (4294967295 : Int64))))) r88_59 rfl rfl <| Er.sT (c2 := (62, [some (.ref x0), some (.int x1), some (.int x2), some (.long x3), none, some (.int x5), some (.long (((gal σ (fr x0 4) (((64 : Int32) * x1) + x5).toNatClampNeg) - (gal σ (fr x0 4) (((64 : Int32) * x2) + x5).toNatClampNeg)) - x3)), none], [.long (0 : Int64), .long (((gal σ (fr x0 4) (((64 : Int32) * x1) + x5).toNatClampNeg) - (gal σ (fr x0 4) (((64 : Int32) * x2) + x5).toNatClampNeg)) - x3)], (sal σ (fr x0 4) (((64 : Int32) * x1) + x5).toNatClampNeg ((((gal σ (fr x0 4) (((64 : Int32) * x1) + x5).toNatClampNeg) - (gal σ (fr x0 4) (((64 : Int32) * x2) + x5).toNatClampNeg)) - x3) &&& (4294967295 : Int64))))) r88_61 rfl rfl <| Er.sT (c2 := (63, [some (.ref x0), some (.int x1), some (.int x2), some (.long x3), none, some (.int x5), some (.long (((gal σ (fr x0 4) (((64 : Int32) * x1) + x5).toNatClampNeg) - (gal σ (fr x0 4) (((64 : Int32) * x2) + x5).toNatClampNeg)) - x3)), none], [.int (lg_cmp (((gal σ (fr x0 4) (((64 : Int32) * x1) + x5).toNatClampNeg) - (gal σ (fr x0 4) (((64 : Int32) * x2) + x5).toNatClampNeg)) - x3) (0 : Int64))], (sal σ (fr x0 4) (((64 : Int32) * x1) + x5).toNatClampNeg ((((gal σ (fr x0 4) (((64 : Int32) * x1) + x5).toNatClampNeg) - (gal σ (fr x0 4) (((64 : Int32) * x2) + x5).toNatClampNeg)) - x3) &&& (4294967295 : Int64))))) r88_62 rfl rfl <| Er.sT (c2 := (brn .ge (lg_cmp (((gal σ (fr x0 4) (((64 : Int32) * x1) + x5).toNatClampNeg) - (gal σ (fr x0 4) (((64 : Int32) * x2) + x5).toNatClampNeg)) - x3) (0 : Int64)) (0 : Int32) 70 66, [some (.ref x0), some (.int x1), some (.int x2), some (.long x3), none, some (.int x5), some (.long (((gal σ (fr x0 4) (((64 : Int32) * x1) + x5).toNatClampNeg) - (gal σ (fr x0 4) (((64 : Int32) * x2) + x5).toNatClampNeg)) - x3)), none], [], (sal σ (fr x0 4) (((64 : Int32) * x1) + x5).toNatClampNeg ((((gal σ (fr x0 4) (((64 : Int32) * x1) + x5).toNatClampNeg) - (gal σ (fr x0 4) (((64 : Int32) * x2) + x5).toNatClampNeg)) - x3) &&& (4294967295 : Int64))))) r88_63 rfl rfl <| (bl_ge kt kf)
theorem b88_66 {d : Nat} {q : Rs} {x0 : Nat} {x1 : Int32} {x2 : Int32} {x3 : Int64} {x5 : Int32} {x6 : Int64} {σ : St} 
    (k : Er (d + 1) 88 (71, [some (.ref x0), some (.int x1), some (.int x2), some (.long x3), none, some (.int x5), some (.long x6), none], [.long (1 : Int64)], σ) q) :
    Er (d + 1) 88 (66, [some (.ref x0), some (.int x1), some (.int x2), some (.long x3), none, some (.int x5), some (.long x6), none], [], σ) q := Er.sT (c2 := (67, [some (.ref x0), some (.int x1), some (.int x2), some (.long x3), none, some (.int x5), some (.long x6), none], [.long (1 : Int64)], σ)) r88_66 rfl rfl <| Er.sT (c2 := (71, [some (.ref x0), some (.int x1), some (.int x2), some (.long x3), none, some (.int x5), some (.long x6), none], [.long (1 : Int64)], σ)) r88_67 rfl rfl <| k
theorem b88_70 {d : Nat} {q : Rs} {x0 : Nat} {x1 : Int32} {x2 : Int32} {x3 : Int64} {x5 : Int32} {x6 : Int64} {σ : St} 
    (k : Er (d + 1) 88 (71, [some (.ref x0), some (.int x1), some (.int x2), some (.long x3), none, some (.int x5), some (.long x6), none], [.long (0 : Int64)], σ) q) :
    Er (d + 1) 88 (70, [some (.ref x0), some (.int x1), some (.int x2), some (.long x3), none, some (.int x5), some (.long x6), none], [], σ) q := Er.sT (c2 := (71, [some (.ref x0), some (.int x1), some (.int x2), some (.long x3), none, some (.int x5), some (.long x6), none], [.long (0 : Int64)], σ)) r88_70 rfl rfl <| k
theorem b88_71 {d : Nat} {q : Rs} {x0 : Nat} {x1 : Int32} {x2 : Int32} {x3 : Int64} {x5 : Int32} {x6 : Int64} {s0 : Int64} {σ : St} 
    (k : Er (d + 1) 88 (5, [some (.ref x0), some (.int x1), some (.int x2), some (.long s0), none, some (.int (x5 + (1 : Int32))), some (.long x6), none], [], σ) q) :
    Er (d + 1) 88 (71, [some (.ref x0), some (.int x1), some (.int x2), some (.long x3), none, some (.int x5), some (.long x6), none], [.long s0], σ) q := Er.sT (c2 := (72, [some (.ref x0), some (.int x1), some (.int x2), some (.long s0), none, some (.int x5), some (.long x6), none], [], σ)) r88_71 rfl rfl <| Er.sT (c2 := (75, [some (.ref x0), some (.int x1), some (.int x2), some (.long s0), none, some (.int (x5 + (1 : Int32))), some (.long x6), none], [], σ)) r88_72 rfl rfl <| Er.sT (c2 := (5, [some (.ref x0), some (.int x1), some (.int x2), some (.long s0), none, some (.int (x5 + (1 : Int32))), some (.long x6), none], [], σ)) r88_75 rfl rfl <| k
theorem b88_78 {d : Nat} {x0 : Nat} {x1 : Int32} {x2 : Int32} {x3 : Int64} {x5 : Int32} {o6 : Option Value} {o7 : Option Value} {σ : St}  :
    Er (d + 1) 88 (78, [some (.ref x0), some (.int x1), some (.int x2), some (.long x3), none, some (.int x5), o6, o7], [], σ) (.inl none, σ, 0) := (Er.ret r88_78 rfl ⟨rfl, rfl, rfl⟩)
/-! NumberModelsModel.up(II)V -/
theorem tab_89 : tab 89 = tb89_0 ++ tb89_1 := rfl
theorem ch89_0 {j : Nat} {r : Row} (h : tb89_0[j]? = some r) : rowAt 89 r.1 = some r := row_mem 89 (by decide) (by rw [tab_89]; exact (List.mem_append_left _ (List.mem_of_getElem? h)))
theorem ch89_1 {j : Nat} {r : Row} (h : tb89_1[j]? = some r) : rowAt 89 r.1 = some r := row_mem 89 (by decide) (by rw [tab_89]; exact (List.mem_append_right _ (List.mem_of_getElem? h)))
theorem r89_0 : rowAt 89 0 = some (ra 0 1 (.iload_n 2) 2 0 0) := ch89_0 (j := 0) rfl
theorem r89_1 : rowAt 89 1 = some (1, 3, .bipush 32, 0, 0, 0, 32, 0) := ch89_0 (j := 1) rfl
theorem r89_3 : rowAt 89 3 = some (r0 3 4 (.idiv)) := ch89_0 (j := 2) rfl
theorem r89_4 : rowAt 89 4 = some (ra 4 5 (.istore_n 3) 3 0 0) := ch89_0 (j := 3) rfl
theorem r89_5 : rowAt 89 5 = some (ra 5 6 (.iload_n 2) 2 0 0) := ch89_0 (j := 4) rfl
theorem r89_6 : rowAt 89 6 = some (6, 8, .bipush 32, 0, 0, 0, 32, 0) := ch89_0 (j := 5) rfl
theorem r89_8 : rowAt 89 8 = some (r0 8 9 (.irem)) := ch89_0 (j := 6) rfl
theorem r89_9 : rowAt 89 9 = some (ra 9 11 (.istore 4) 4 0 0) := ch89_0 (j := 7) rfl
theorem r89_11 : rowAt 89 11 = some (11, 13, .bipush 63, 0, 0, 0, 63, 0) := ch89_0 (j := 8) rfl
theorem r89_13 : rowAt 89 13 = some (ra 13 15 (.istore 5) 5 0 0) := ch89_0 (j := 9) rfl
theorem r89_15 : rowAt 89 15 = some (ra 15 17 (.iload 5) 5 0 0) := ch89_0 (j := 10) rfl
theorem r89_17 : rowAt 89 17 = some (ra 17 20 (.ifCond .lt 97) 114 0 0) := ch89_0 (j := 11) rfl
theorem r89_20 : rowAt 89 20 = some (ra 20 22 (.iload 5) 5 0 0) := ch89_0 (j := 12) rfl
theorem r89_22 : rowAt 89 22 = some (ra 22 23 (.iload_n 3) 3 0 0) := ch89_0 (j := 13) rfl
theorem r89_23 : rowAt 89 23 = some (r0 23 24 (.isub)) := ch89_0 (j := 14) rfl
theorem r89_24 : rowAt 89 24 = some (ra 24 27 (.ifCond .lt 20) 44 0 0) := ch89_0 (j := 15) rfl
theorem r89_27 : rowAt 89 27 = some (r0 27 28 (.aload_n 0)) := ch89_0 (j := 16) rfl
theorem r89_28 : rowAt 89 28 = some (ra 28 31 (.getfield 17) 4 5 877) := ch89_0 (j := 17) rfl
theorem r89_31 : rowAt 89 31 = some (31, 33, .bipush 64, 0, 0, 0, 64, 0) := ch89_0 (j := 18) rfl
theorem r89_33 : rowAt 89 33 = some (ra 33 34 (.iload_n 1) 1 0 0) := ch89_0 (j := 19) rfl
theorem r89_34 : rowAt 89 34 = some (r0 34 35 (.imul)) := ch89_0 (j := 20) rfl
theorem r89_35 : rowAt 89 35 = some (ra 35 37 (.iload 5) 5 0 0) := ch89_0 (j := 21) rfl
theorem r89_37 : rowAt 89 37 = some (r0 37 38 (.iadd)) := ch89_0 (j := 22) rfl
theorem r89_38 : rowAt 89 38 = some (ra 38 39 (.iload_n 3) 3 0 0) := ch89_0 (j := 23) rfl
theorem r89_39 : rowAt 89 39 = some (r0 39 40 (.isub)) := ch89_0 (j := 24) rfl
theorem r89_40 : rowAt 89 40 = some (r0 40 41 (.laload)) := ch89_0 (j := 25) rfl
theorem r89_41 : rowAt 89 41 = some (ra 41 44 (.goto 4) 45 0 0) := ch89_0 (j := 26) rfl
theorem r89_44 : rowAt 89 44 = some (r0 44 45 (.lconst 0)) := ch89_0 (j := 27) rfl
theorem r89_45 : rowAt 89 45 = some (ra 45 47 (.lstore 6) 6 0 0) := ch89_0 (j := 28) rfl
theorem r89_47 : rowAt 89 47 = some (ra 47 49 (.iload 5) 5 0 0) := ch89_0 (j := 29) rfl
theorem r89_49 : rowAt 89 49 = some (ra 49 50 (.iload_n 3) 3 0 0) := ch89_0 (j := 30) rfl
theorem r89_50 : rowAt 89 50 = some (r0 50 51 (.isub)) := ch89_0 (j := 31) rfl
theorem r89_51 : rowAt 89 51 = some (51, 52, .iconst 1, 0, 0, 0, 1, 0) := ch89_0 (j := 32) rfl
theorem r89_52 : rowAt 89 52 = some (r0 52 53 (.isub)) := ch89_0 (j := 33) rfl
theorem r89_53 : rowAt 89 53 = some (ra 53 56 (.ifCond .lt 22) 75 0 0) := ch89_0 (j := 34) rfl
theorem r89_56 : rowAt 89 56 = some (r0 56 57 (.aload_n 0)) := ch89_0 (j := 35) rfl
theorem r89_57 : rowAt 89 57 = some (ra 57 60 (.getfield 17) 4 5 877) := ch89_0 (j := 36) rfl
theorem r89_60 : rowAt 89 60 = some (60, 62, .bipush 64, 0, 0, 0, 64, 0) := ch89_0 (j := 37) rfl
theorem r89_62 : rowAt 89 62 = some (ra 62 63 (.iload_n 1) 1 0 0) := ch89_0 (j := 38) rfl
theorem r89_63 : rowAt 89 63 = some (r0 63 64 (.imul)) := ch89_0 (j := 39) rfl
theorem r89_64 : rowAt 89 64 = some (ra 64 66 (.iload 5) 5 0 0) := ch89_0 (j := 40) rfl
theorem r89_66 : rowAt 89 66 = some (r0 66 67 (.iadd)) := ch89_0 (j := 41) rfl
theorem r89_67 : rowAt 89 67 = some (ra 67 68 (.iload_n 3) 3 0 0) := ch89_0 (j := 42) rfl
theorem r89_68 : rowAt 89 68 = some (r0 68 69 (.isub)) := ch89_0 (j := 43) rfl
theorem r89_69 : rowAt 89 69 = some (69, 70, .iconst 1, 0, 0, 0, 1, 0) := ch89_0 (j := 44) rfl
theorem r89_70 : rowAt 89 70 = some (r0 70 71 (.isub)) := ch89_0 (j := 45) rfl
theorem r89_71 : rowAt 89 71 = some (r0 71 72 (.laload)) := ch89_0 (j := 46) rfl
theorem r89_72 : rowAt 89 72 = some (ra 72 75 (.goto 4) 76 0 0) := ch89_0 (j := 47) rfl
theorem r89_75 : rowAt 89 75 = some (r0 75 76 (.lconst 0)) := ch89_0 (j := 48) rfl
theorem r89_76 : rowAt 89 76 = some (ra 76 78 (.lstore 8) 8 0 0) := ch89_0 (j := 49) rfl
theorem r89_78 : rowAt 89 78 = some (r0 78 79 (.aload_n 0)) := ch89_0 (j := 50) rfl
theorem r89_79 : rowAt 89 79 = some (ra 79 82 (.getfield 17) 4 5 877) := ch89_0 (j := 51) rfl
theorem r89_82 : rowAt 89 82 = some (82, 84, .bipush 64, 0, 0, 0, 64, 0) := ch89_0 (j := 52) rfl
theorem r89_84 : rowAt 89 84 = some (ra 84 85 (.iload_n 1) 1 0 0) := ch89_0 (j := 53) rfl
theorem r89_85 : rowAt 89 85 = some (r0 85 86 (.imul)) := ch89_0 (j := 54) rfl
theorem r89_86 : rowAt 89 86 = some (ra 86 88 (.iload 5) 5 0 0) := ch89_0 (j := 55) rfl
theorem r89_88 : rowAt 89 88 = some (r0 88 89 (.iadd)) := ch89_0 (j := 56) rfl
theorem r89_89 : rowAt 89 89 = some (ra 89 91 (.lload 6) 6 0 0) := ch89_0 (j := 57) rfl
theorem r89_91 : rowAt 89 91 = some (ra 91 93 (.iload 4) 4 0 0) := ch89_0 (j := 58) rfl
theorem r89_93 : rowAt 89 93 = some (r0 93 94 (.lshl)) := ch89_0 (j := 59) rfl
theorem r89_94 : rowAt 89 94 = some (ra 94 96 (.lload 8) 8 0 0) := ch89_1 (j := 0) rfl
theorem r89_96 : rowAt 89 96 = some (96, 98, .bipush 32, 0, 0, 0, 32, 0) := ch89_1 (j := 1) rfl
theorem r89_98 : rowAt 89 98 = some (ra 98 100 (.iload 4) 4 0 0) := ch89_1 (j := 2) rfl
theorem r89_100 : rowAt 89 100 = some (r0 100 101 (.isub)) := ch89_1 (j := 3) rfl
theorem r89_101 : rowAt 89 101 = some (r0 101 102 (.lshr)) := ch89_1 (j := 4) rfl
theorem r89_102 : rowAt 89 102 = some (r0 102 103 (.lor)) := ch89_1 (j := 5) rfl
theorem r89_103 : rowAt 89 103 = some (103, 106, .ldc2_w 28, 0, 0, 923, 0, 4294967295) := ch89_1 (j := 6) rfl
theorem r89_106 : rowAt 89 106 = some (r0 106 107 (.land)) := ch89_1 (j := 7) rfl
theorem r89_107 : rowAt 89 107 = some (r0 107 108 (.lastore)) := ch89_1 (j := 8) rfl
theorem r89_108 : rowAt 89 108 = some (108, 111, .iinc 5 (-1), 5, 0, 0, (-1), 0) := ch89_1 (j := 9) rfl
theorem r89_111 : rowAt 89 111 = some (ra 111 114 (.goto (-96)) 15 0 0) := ch89_1 (j := 10) rfl
theorem r89_114 : rowAt 89 114 = some (r0 114 115 (.return_)) := ch89_1 (j := 11) rfl
theorem b89_0 {d : Nat} {q : Rs} {x0 : Nat} {x1 : Int32} {x2 : Int32} {σ : St} (h1 : ¬ (32 : Int32) = 0)
    (k : Er (d + 1) 89 (15, [some (.ref x0), some (.int x1), some (.int x2), some (.int (x2 / (32 : Int32))), some (.int (x2 - x2 / (32 : Int32) * (32 : Int32))), some (.int (63 : Int32)), none, none, none, none], [], σ) q) :
    Er (d + 1) 89 (0, [some (.ref x0), some (.int x1), some (.int x2), none, none, none, none, none, none, none], [], σ) q := Er.sT (c2 := (1, [some (.ref x0), some (.int x1), some (.int x2), none, none, none, none, none, none, none], [.int x2], σ)) r89_0 rfl rfl <| Er.sT (c2 := (3, [some (.ref x0), some (.int x1), some (.int x2), none, none, none, none, none, none, none], [.int (32 : Int32), .int x2], σ)) r89_1 rfl rfl <| Er.st (P := (¬ (32 : Int32) = 0)) (c2 := (4, [some (.ref x0), some (.int x1), some (.int x2), none, none, none, none, none, none, none], [.int (x2 / (32 : Int32))], σ)) r89_3 rfl rfl h1 <| Er.sT (c2 := (5, [some (.ref x0), some (.int x1), some (.int x2), some (.int (x2 / (32 : Int32))), none, none, none, none, none, none], [], σ)) r89_4 rfl rfl <| Er.sT (c2 := (6, [some (.ref x0), some (.int x1), some (.int x2), some (.int (x2 / (32 : Int32))), none, none, none, none, none, none], [.int x2], σ)) r89_5 rfl rfl <| Er.sT (c2 := (8, [some (.ref x0), some (.int x1), some (.int x2), some (.int (x2 / (32 : Int32))), none, none, none, none, none, none], [.int (32 : Int32), .int x2], σ)) r89_6 rfl rfl <| Er.st (P := (¬ (32 : Int32) = 0)) (c2 := (9, [some (.ref x0), some (.int x1), some (.int x2), some (.int (x2 / (32 : Int32))), none, none, none, none, none, none], [.int (x2 - x2 / (32 : Int32) * (32 : Int32))], σ)) r89_8 rfl rfl h1 <| Er.sT (c2 := (11, [some (.ref x0), some (.int x1), some (.int x2), some (.int (x2 / (32 : Int32))), some (.int (x2 - x2 / (32 : Int32) * (32 : Int32))), none, none, none, none, none], [], σ)) r89_9 rfl rfl <| Er.sT (c2 := (13, [some (.ref x0), some (.int x1), some (.int x2), some (.int (x2 / (32 : Int32))), some (.int (x2 - x2 / (32 : Int32) * (32 : Int32))), none, none, none, none, none], [.int (63 : Int32)], σ)) r89_11 rfl rfl <| Er.sT (c2 := (15, [some (.ref x0), some (.int x1), some (.int x2), some (.int (x2 / (32 : Int32))), some (.int (x2 - x2 / (32 : Int32) * (32 : Int32))), some (.int (63 : Int32)), none, none, none, none], [], σ)) r89_13 rfl rfl <| k
theorem b89_15 {d : Nat} {q : Rs} {x0 : Nat} {x1 : Int32} {x2 : Int32} {x3 : Int32} {x4 : Int32} {x5 : Int32} {o6 : Option Value} {o7 : Option Value} {o8 : Option Value} {o9 : Option Value} {σ : St} 
    (kt : x5 < (0 : Int32) → Er (d + 1) 89 (114, [some (.ref x0), some (.int x1), some (.int x2), some (.int x3), some (.int x4), some (.int x5), o6, o7, o8, o9], [], σ) q)
    (kf : ¬ x5 < (0 : Int32) → Er (d + 1) 89 (20, [some (.ref x0), some (.int x1), some (.int x2), some (.int x3), some (.int x4), some (.int x5), o6, o7, o8, o9], [], σ) q) :
    Er (d + 1) 89 (15, [some (.ref x0), some (.int x1), some (.int x2), some (.int x3), some (.int x4), some (.int x5), o6, o7, o8, o9], [], σ) q := Er.sT (c2 := (17, [some (.ref x0), some (.int x1), some (.int x2), some (.int x3), some (.int x4), some (.int x5), o6, o7, o8, o9], [.int x5], σ)) r89_15 rfl rfl <| Er.sT (c2 := (brn .lt x5 (0 : Int32) 114 20, [some (.ref x0), some (.int x1), some (.int x2), some (.int x3), some (.int x4), some (.int x5), o6, o7, o8, o9], [], σ)) r89_17 rfl rfl <| (br_lt kt kf)
theorem b89_20 {d : Nat} {q : Rs} {x0 : Nat} {x1 : Int32} {x2 : Int32} {x3 : Int32} {x4 : Int32} {x5 : Int32} {o6 : Option Value} {o7 : Option Value} {o8 : Option Value} {o9 : Option Value} {σ : St} 
    (kt : (x5 - x3) < (0 : Int32) → Er (d + 1) 89 (44, [some (.ref x0), some (.int x1), some (.int x2), some (.int x3), some (.int x4), some (.int x5), o6, o7, o8, o9], [], σ) q)
    (kf : ¬ (x5 - x3) < (0 : Int32) → Er (d + 1) 89 (27, [some (.ref x0), some (.int x1), some (.int x2), some (.int x3), some (.int x4), some (.int x5), o6, o7, o8, o9], [], σ) q) :
    Er (d + 1) 89 (20, [some (.ref x0), some (.int x1), some (.int x2), some (.int x3), some (.int x4), some (.int x5), o6, o7, o8, o9], [], σ) q := Er.sT (c2 := (22, [some (.ref x0), some (.int x1), some (.int x2), some (.int x3), some (.int x4), some (.int x5), o6, o7, o8, o9], [.int x5], σ)) r89_20 rfl rfl <| Er.sT (c2 := (23, [some (.ref x0), some (.int x1), some (.int x2), some (.int x3), some (.int x4), some (.int x5), o6, o7, o8, o9], [.int x3, .int x5], σ)) r89_22 rfl rfl <| Er.sT (c2 := (24, [some (.ref x0), some (.int x1), some (.int x2), some (.int x3), some (.int x4), some (.int x5), o6, o7, o8, o9], [.int (x5 - x3)], σ)) r89_23 rfl rfl <| Er.sT (c2 := (brn .lt (x5 - x3) (0 : Int32) 44 27, [some (.ref x0), some (.int x1), some (.int x2), some (.int x3), some (.int x4), some (.int x5), o6, o7, o8, o9], [], σ)) r89_24 rfl rfl <| (br_lt kt kf)
theorem b89_27 {d : Nat} {q : Rs} {x0 : Nat} {x1 : Int32} {x2 : Int32} {x3 : Int32} {x4 : Int32} {x5 : Int32} {o6 : Option Value} {o7 : Option Value} {o8 : Option Value} {o9 : Option Value} {σ : St} (h1 : x0 < 24 ∧ kls x0 = 5) (h2 : isL (fr x0 4) ∧ vp_in ((((64 : Int32) * x1) + x5) - x3) (ale (fr x0 4)))
    (k : Er (d + 1) 89 (45, [some (.ref x0), some (.int x1), some (.int x2), some (.int x3), some (.int x4), some (.int x5), o6, o7, o8, o9], [.long (gal σ (fr x0 4) ((((64 : Int32) * x1) + x5) - x3).toNatClampNeg)], σ) q) :
    Er (d + 1) 89 (27, [some (.ref x0), some (.int x1), some (.int x2), some (.int x3), some (.int x4), some (.int x5), o6, o7, o8, o9], [], σ) q := Er.sT (c2 := (28, [some (.ref x0), some (.int x1), some (.int x2), some (.int x3), some (.int x4), some (.int x5), o6, o7, o8, o9], [.ref x0], σ)) r89_27 rfl rfl <| Er.st (P := (x0 < 24 ∧ kls x0 = 5)) (c2 := (31, [some (.ref x0), some (.int x1), some (.int x2), some (.int x3), some (.int x4), some (.int x5), o6, o7, o8, o9], [.ref (fr x0 4)], σ)) r89_28 rfl rfl h1 <| Er.sT (c2 := (33, [some (.ref x0), some (.int x1), some (.int x2), some (.int x3), some (.int x4), some (.int x5), o6, o7, o8, o9], [.int (64 : Int32), .ref (fr x0 4)], σ)) r89_31 rfl rfl <| Er.sT (c2 := (34, [some (.ref x0), some (.int x1), some (.int x2), some (.int x3), some (.int x4), some (.int x5), o6, o7, o8, o9], [.int x1, .int (64 : Int32), .ref (fr x0 4)], σ)) r89_33 rfl rfl <| Er.sT (c2 := (35, [some (.ref x0), some (.int x1), some (.int x2), some (.int x3), some (.int x4), some (.int x5), o6, o7, o8, o9], [.int ((64 : Int32) * x1), .ref (fr x0 4)], σ)) r89_34 rfl rfl <| Er.sT (c2 := (37, [some (.ref x0), some (.int x1), some (.int x2), some (.int x3), some (.int x4), some (.int x5), o6, o7, o8, o9], [.int x5, .int ((64 : Int32) * x1), .ref (fr x0 4)], σ)) r89_35 rfl rfl <| Er.sT (c2 := (38, [some (.ref x0), some (.int x1), some (.int x2), some (.int x3), some (.int x4), some (.int x5), o6, o7, o8, o9], [.int (((64 : Int32) * x1) + x5), .ref (fr x0 4)], σ)) r89_37 rfl rfl <| Er.sT (c2 := (39, [some (.ref x0), some (.int x1), some (.int x2), some (.int x3), some (.int x4), some (.int x5), o6, o7, o8, o9], [.int x3, .int (((64 : Int32) * x1) + x5), .ref (fr x0 4)], σ)) r89_38 rfl rfl <| Er.sT (c2 := (40, [some (.ref x0), some (.int x1), some (.int x2), some (.int x3), some (.int x4), some (.int x5), o6, o7, o8, o9], [.int ((((64 : Int32) * x1) + x5) - x3), .ref (fr x0 4)], σ)) r89_39 rfl rfl <| Er.st (P := (isL (fr x0 4) ∧ vp_in ((((64 : Int32) * x1) + x5) - x3) (ale (fr x0 4)))) (c2 := (41, [some (.ref x0), some (.int x1), some (.int x2), some (.int x3), some (.int x4), some (.int x5), o6, o7, o8, o9], [.long (gal σ (fr x0 4) ((((64 : Int32) * x1) + x5) - x3).toNatClampNeg)], σ)) r89_40 rfl rfl h2 <| Er.sT (c2 := (45, [some (.ref x0), some (.int x1), some (.int x2), some (.int x3), some (.int x4), some (.int x5), o6, o7, o8, o9], [.long (gal σ (fr x0 4) ((((64 : Int32) * x1) + x5) - x3).toNatClampNeg)], σ)) r89_41 rfl rfl <| k
theorem b89_44 {d : Nat} {q : Rs} {x0 : Nat} {x1 : Int32} {x2 : Int32} {x3 : Int32} {x4 : Int32} {x5 : Int32} {o6 : Option Value} {o7 : Option Value} {o8 : Option Value} {o9 : Option Value} {σ : St} 
    (k : Er (d + 1) 89 (45, [some (.ref x0), some (.int x1), some (.int x2), some (.int x3), some (.int x4), some (.int x5), o6, o7, o8, o9], [.long (0 : Int64)], σ) q) :
    Er (d + 1) 89 (44, [some (.ref x0), some (.int x1), some (.int x2), some (.int x3), some (.int x4), some (.int x5), o6, o7, o8, o9], [], σ) q := Er.sT (c2 := (45, [some (.ref x0), some (.int x1), some (.int x2), some (.int x3), some (.int x4), some (.int x5), o6, o7, o8, o9], [.long (0 : Int64)], σ)) r89_44 rfl rfl <| k
theorem b89_45 {d : Nat} {q : Rs} {x0 : Nat} {x1 : Int32} {x2 : Int32} {x3 : Int32} {x4 : Int32} {x5 : Int32} {o6 : Option Value} {o7 : Option Value} {o8 : Option Value} {o9 : Option Value} {s0 : Int64} {σ : St} 
    (kt : ((x5 - x3) - (1 : Int32)) < (0 : Int32) → Er (d + 1) 89 (75, [some (.ref x0), some (.int x1), some (.int x2), some (.int x3), some (.int x4), some (.int x5), some (.long s0), none, o8, o9], [], σ) q)
    (kf : ¬ ((x5 - x3) - (1 : Int32)) < (0 : Int32) → Er (d + 1) 89 (56, [some (.ref x0), some (.int x1), some (.int x2), some (.int x3), some (.int x4), some (.int x5), some (.long s0), none, o8, o9], [], σ) q) :
    Er (d + 1) 89 (45, [some (.ref x0), some (.int x1), some (.int x2), some (.int x3), some (.int x4), some (.int x5), o6, o7, o8, o9], [.long s0], σ) q := Er.sT (c2 := (47, [some (.ref x0), some (.int x1), some (.int x2), some (.int x3), some (.int x4), some (.int x5), some (.long s0), none, o8, o9], [], σ)) r89_45 rfl rfl <| Er.sT (c2 := (49, [some (.ref x0), some (.int x1), some (.int x2), some (.int x3), some (.int x4), some (.int x5), some (.long s0), none, o8, o9], [.int x5], σ)) r89_47 rfl rfl <| Er.sT (c2 := (50, [some (.ref x0), some (.int x1), some (.int x2), some (.int x3), some (.int x4), some (.int x5), some (.long s0), none, o8, o9], [.int x3, .int x5], σ)) r89_49 rfl rfl <| Er.sT (c2 := (51, [some (.ref x0), some (.int x1), some (.int x2), some (.int x3), some (.int x4), some (.int x5), some (.long s0), none, o8, o9], [.int (x5 - x3)], σ)) r89_50 rfl rfl <| Er.sT (c2 := (52, [some (.ref x0), some (.int x1), some (.int x2), some (.int x3), some (.int x4), some (.int x5), some (.long s0), none, o8, o9], [.int (1 : Int32), .int (x5 - x3)], σ)) r89_51 rfl rfl <| Er.sT (c2 := (53, [some (.ref x0), some (.int x1), some (.int x2), some (.int x3), some (.int x4), some (.int x5), some (.long s0), none, o8, o9], [.int ((x5 - x3) - (1 : Int32))], σ)) r89_52 rfl rfl <| Er.sT (c2 := (brn .lt ((x5 - x3) - (1 : Int32)) (0 : Int32) 75 56, [some (.ref x0), some (.int x1), some (.int x2), some (.int x3), some (.int x4), some (.int x5), some (.long s0), none, o8, o9], [], σ)) r89_53 rfl rfl <| (br_lt kt kf)
theorem b89_56 {d : Nat} {q : Rs} {x0 : Nat} {x1 : Int32} {x2 : Int32} {x3 : Int32} {x4 : Int32} {x5 : Int32} {x6 : Int64} {o8 : Option Value} {o9 : Option Value} {σ : St} (h1 : x0 < 24 ∧ kls x0 = 5) (h2 : isL (fr x0 4) ∧ vp_in (((((64 : Int32) * x1) + x5) - x3) - (1 : Int32)) (ale (fr x0 4)))
    (k : Er (d + 1) 89 (76, [some (.ref x0), some (.int x1), some (.int x2), some (.int x3), some (.int x4), some (.int x5), some (.long x6), none, o8, o9], [.long (gal σ (fr x0 4) (((((64 : Int32) * x1) + x5) - x3) - (1 : Int32)).toNatClampNeg)], σ) q) :
    Er (d + 1) 89 (56, [some (.ref x0), some (.int x1), some (.int x2), some (.int x3), some (.int x4), some (.int x5), some (.long x6), none, o8, o9], [], σ) q := Er.sT (c2 := (57, [some (.ref x0), some (.int x1), some (.int x2), some (.int x3), some (.int x4), some (.int x5), some (.long x6), none, o8, o9], [.ref x0], σ)) r89_56 rfl rfl <| Er.st (P := (x0 < 24 ∧ kls x0 = 5)) (c2 := (60, [some (.ref x0), some (.int x1), some (.int x2), some (.int x3), some (.int x4), some (.int x5), some (.long x6), none, o8, o9], [.ref (fr x0 4)], σ)) r89_57 rfl rfl h1 <| Er.sT (c2 := (62, [some (.ref x0), some (.int x1), some (.int x2), some (.int x3), some (.int x4), some (.int x5), some (.long x6), none, o8, o9], [.int (64 : Int32), .ref (fr x0 4)], σ)) r89_60 rfl rfl <| Er.sT (c2 := (63, [some (.ref x0), some (.int x1), some (.int x2), some (.int x3), some (.int x4), some (.int x5), some (.long x6), none, o8, o9], [.int x1, .int (64 : Int32), .ref (fr x0 4)], σ)) r89_62 rfl rfl <| Er.sT (c2 := (64, [some (.ref x0), some (.int x1), some (.int x2), some (.int x3), some (.int x4), some (.int x5), some (.long x6), none, o8, o9], [.int ((64 : Int32) * x1), .ref (fr x0 4)], σ)) r89_63 rfl rfl <| Er.sT (c2 := (66, [some (.ref x0), some (.int x1), some (.int x2), some (.int x3), some (.int x4), some (.int x5), some (.long x6), none, o8, o9], [.int x5, .int ((64 : Int32) * x1), .ref (fr x0 4)], σ)) r89_64 rfl rfl <| Er.sT (c2 := (67, [some (.ref x0), some (.int x1), some (.int x2), some (.int x3), some (.int x4), some (.int x5), some (.long x6), none, o8, o9], [.int (((64 : Int32) * x1) + x5), .ref (fr x0 4)], σ)) r89_66 rfl rfl <| Er.sT (c2 := (68, [some (.ref x0), some (.int x1), some (.int x2), some (.int x3), some (.int x4), some (.int x5), some (.long x6), none, o8, o9], [.int x3, .int (((64 : Int32) * x1) + x5), .ref (fr x0 4)], σ)) r89_67 rfl rfl <| Er.sT (c2 := (69, [some (.ref x0), some (.int x1), some (.int x2), some (.int x3), some (.int x4), some (.int x5), some (.long x6), none, o8, o9], [.int ((((64 : Int32) * x1) + x5) - x3), .ref (fr x0 4)], σ)) r89_68 rfl rfl <| Er.sT (c2 := (70, [some (.ref x0), some (.int x1), some (.int x2), some (.int x3), some (.int x4), some (.int x5), some (.long x6), none, o8, o9], [.int (1 : Int32), .int ((((64 : Int32) * x1) + x5) - x3), .ref (fr x0 4)], σ)) r89_69 rfl rfl <| Er.sT (c2 := (71, [some (.ref x0), some (.int x1), some (.int x2), some (.int x3), some (.int x4), some (.int x5), some (.long x6), none, o8, o9], [.int (((((64 : Int32) * x1) + x5) - x3) - (1 : Int32)), .ref (fr x0 4)], σ)) r89_70 rfl rfl <| Er.st (P := (isL (fr x0 4) ∧ vp_in (((((64 : Int32) * x1) + x5) - x3) - (1 : Int32)) (ale (fr x0 4)))) (c2 := (72, [some (.ref x0), some (.int x1), some (.int x2), some (.int x3), some (.int x4), some (.int x5), some (.long x6), none, o8, o9], [.long (gal σ (fr x0 4) (((((64 : Int32) * x1) + x5) - x3) - (1 : Int32)).toNatClampNeg)], σ)) r89_71 rfl rfl h2 <| Er.sT (c2 := (76, [some (.ref x0), some (.int x1), some (.int x2), some (.int x3), some (.int x4), some (.int x5), some (.long x6), none, o8, o9], [.long (gal σ (fr x0 4) (((((64 : Int32) * x1) + x5) - x3) - (1 : Int32)).toNatClampNeg)], σ)) r89_72 rfl rfl <| k
theorem b89_75 {d : Nat} {q : Rs} {x0 : Nat} {x1 : Int32} {x2 : Int32} {x3 : Int32} {x4 : Int32} {x5 : Int32} {x6 : Int64} {o8 : Option Value} {o9 : Option Value} {σ : St} 
    (k : Er (d + 1) 89 (76, [some (.ref x0), some (.int x1), some (.int x2), some (.int x3), some (.int x4), some (.int x5), some (.long x6), none, o8, o9], [.long (0 : Int64)], σ) q) :
    Er (d + 1) 89 (75, [some (.ref x0), some (.int x1), some (.int x2), some (.int x3), some (.int x4), some (.int x5), some (.long x6), none, o8, o9], [], σ) q := Er.sT (c2 := (76, [some (.ref x0), some (.int x1), some (.int x2), some (.int x3), some (.int x4), some (.int x5), some (.long x6), none, o8, o9], [.long (0 : Int64)], σ)) r89_75 rfl rfl <| k
theorem b89_76 {d : Nat} {q : Rs} {x0 : Nat} {x1 : Int32} {x2 : Int32} {x3 : Int32} {x4 : Int32} {x5 : Int32} {x6 : Int64} {o8 : Option Value} {o9 : Option Value} {s0 : Int64} {σ : St} (h1 : x0 < 24 ∧ kls x0 = 5) (h2 : isL (fr x0 4) ∧ vp_in (((64 : Int32) * x1) + x5) (ale (fr x0 4)))
    (k : Er (d + 1) 89 (15, [some (.ref x0), some (.int x1), some (.int x2), some (.int x3), some (.int x4), some (.int (x5 + (-1 : Int32))), some (.long x6), none, some (.long s0), none], [], (sal σ (fr x0 4) (((64 : Int32) * x1) + x5).toNatClampNeg (((x6 <<< (x4.toInt64 &&& 63)) ||| (s0 >>> (((32 : Int32) - x4).toInt64 &&& 63))) &&& (4294967295 : Int64)))) q) :
    Er (d + 1) 89 (76, [some (.ref x0), some (.int x1), some (.int x2), some (.int x3), some (.int x4), some (.int x5), some (.long x6), none, o8, o9], [.long s0], σ) q := Er.sT (c2 := (78, [some (.ref x0), some (.int x1), some (.int x2), some (.int x3), some (.int x4), some (.int x5), some (.long x6), none, some (.long s0), none], [], σ)) r89_76 rfl rfl <| Er.sT (c2 := (79, [some (.ref x0), some (.int x1), some (.int x2), some (.int x3), some (.int x4), some (.int x5), some (.long x6), none, some (.long s0), none], [.ref x0], σ)) r89_78 rfl rfl <| Er.st (P := (x0 < 24 ∧ kls x0 = 5)) (c2 := (82, [some (.ref x0), some (.int x1), some (.int x2), some (.int x3), some (.int x4), some (.int x5), some (.long x6), none, some (.long s0), none], [.ref (fr x0 4)], σ)) r89_79 rfl rfl h1 <| Er.sT (c2 := (84, [some (.ref x0), some (.int x1), some (.int x2), some (.int x3), some (.int x4), some (.int x5), some (.long x6), none, some (.long s0), none], [.int (64 : Int32), .ref (fr x0 4)], σ)) r89_82 rfl rfl <| Er.sT (c2 := (85, [some (.ref x0), some (.int x1), some (.int x2), some (.int x3), some (.int x4), some (.int x5), some (.long x6), none, some (.long s0), none], [.int x1, .int (64 : Int32), .ref (fr x0 4)], σ)) r89_84 rfl rfl <| Er.sT (c2 := (86, [some (.ref x0), some (.int x1), some (.int x2), some (.int x3), some (.int x4), some (.int x5), some (.long x6), none, some (.long s0), none], [.int ((64 : Int32) * x1), .ref (fr x0 4)], σ)) r89_85 rfl rfl <| Er.sT (c2 := (88, [some (.ref x0), some (.int x1), some (.int x2), some (.int x3), some (.int x4), some (.int x5), some (.long x6), none, some (.long s0), none], [.int x5, .int ((64 : Int32) * x1), .ref (fr x0 4)], σ)) r89_86 rfl rfl <| Er.sT (c2 := (89, [some (.ref x0), some (.int x1), some (.int x2), some (.int x3), some (.int x4), some (.int x5), some (.long x6), none, some (.long s0), none], [.int (((64 : Int32) * x1) + x5), .ref (fr x0 4)], σ)) r89_88 rfl rfl <| Er.sT (c2 := (91, [some (.ref x0), some (.int x1), some (.int x2), some (.int x3), some (.int x4), some (.int x5), some (.long x6), none, some (.long s0), none], [.long x6, .int (((64 : Int32) * x1) + x5), .ref (fr x0 4)], σ)) r89_89 rfl rfl <| Er.sT (c2 := (93, [some (.ref x0), some (.int x1), some (.int x2), some (.int x3), some (.int x4), some (.int x5), some (.long x6), none, some (.long s0), none], [.int x4, .long x6, .int (((64 : Int32) * x1) + x5), .ref (fr x0 4)], σ)) r89_91 rfl rfl <| Er.sT (c2 := (94, [some (.ref x0), some (.int x1), some (.int x2), some (.int x3), some (.int x4), some (.int x5), some (.long x6), none, some (.long s0), none], [.long (x6 <<< (x4.toInt64 &&& 63)), .int (((64 : Int32) * x1) + x5), .ref (fr x0 4)], σ)) r89_93 rfl rfl <| Er.sT (c2 := (96, [some (.ref x0), some (.int x1), some (.int x2), some (.int x3), some (.int x4), some (.int x5), some (.long x6), none, some (.long s0), none], [.long s0, .long (x6 <<< (x4.toInt64 &&& 63)), .int (((64 : Int32) * x1) + x5), .ref (fr x0 4)], σ)) r89_94 rfl rfl <| Er.sT (c2 := (98, [some (.ref x0), some (.int x1), some (.int x2), some (.int x3), some (.int x4), some (.int x5), some (.long x6), none, some (.long s0), none], [.int (32 : Int32), .long s0, .long (x6 <<< (x4.toInt64 &&& 63)), .int (((64 : Int32) * x1) + x5), .ref (fr x0 4)], σ)) r89_96 rfl rfl <| Er.sT (c2 := (100, [some (.ref x0), some (.int x1), some (.int x2), some (.int x3), some (.int x4), some (.int x5), some (.long x6), none, some (.long s0), none], [.int x4, .int (32 : Int32), .long s0, .long (x6 <<< (x4.toInt64 &&& 63)), .int (((64 : Int32) * x1) + x5), .ref (fr x0 4)], σ)) r89_98 rfl rfl <| Er.sT (c2 := (101, [some (.ref x0), some (.int x1), some (.int x2), some (.int x3), some (.int x4), some (.int x5), some (.long x6), none, some (.long s0), none], [.int ((32 : Int32) - x4), .long s0, .long (x6 <<< (x4.toInt64 &&& 63)), .int (((64 : Int32) * x1) + x5), .ref (fr x0 4)], σ)) r89_100 rfl rfl <| Er.sT (c2 := (102, [some (.ref x0), some (.int x1), some (.int x2), some (.int x3), some (.int x4), some (.int x5), some (.long x6), none, some (.long s0), none], [.long (s0 >>> (((32 : Int32) - x4).toInt64 &&& 63)), .long (x6 <<< (x4.toInt64 &&& 63)), .int (((64 : Int32) * x1) + x5), .ref (fr x0 4)], σ)) r89_101 rfl rfl <| Er.sT (c2 := (103, [some (.ref x0), some (.int x1), some (.int x2), some (.int x3), some (.int x4), some (.int x5), some (.long x6), none, some (.long s0), none], [.long ((x6 <<< (x4.toInt64 &&& 63)) ||| (s0 >>> (((32 : Int32) - x4).toInt64 &&& 63))), .int (((64 : Int32) * x1) + x5), .ref (fr x0 4)], σ)) r89_102 rfl rfl <| Er.sT (c2 := (106, [some (.ref x0), some (.int x1), some (.int x2), some (.int x3), some (.int x4), some (.int x5), some (.long x6), none, some (.long s0), none], [.long (4294967295 : Int64), .long ((x6 <<< (x4.toInt64 &&& 63)) ||| (s0 >>> (((32 : Int32) - x4).toInt64 &&& 63))), .int (((64 : Int32) * x1) + x5), .ref (fr x0 4)], σ)) r89_103 rfl rfl <| Er.sT (c2 := (107, [some (.ref x0), some (.int x1), some (.int x2), some (.int x3), some (.int x4), some (.int x5), some (.long x6), none, some (.long s0), none], [.long (((x6 <<< (x4.toInt64 &&& 63)) ||| (s0 >>> (((32 : Int32) - x4).toInt64 &&& 63))) &&& (4294967295 : Int64)), .int (((64 : Int32) * x1) + x5), .ref (fr x0 4)], σ)) r89_106 rfl rfl <| Er.st (P := (isL (fr x0 4) ∧ vp_in (((64 : Int32) * x1) + x5) (ale (fr x0 4)))) (c2 := (108, [some (.ref x0), some (.int x1), some (.int x2), some (.int x3), some (.int x4), some (.int x5), some (.long x6), none, some (.long s0), none], [], (sal σ (fr x0 4) (((64 : Int32) * x1) + x5).toNatClampNeg (((x6 <<< (x4.toInt64 &&& 63)) ||| (s0 >>> (((32 : Int32) - x4).toInt64 &&& 63))) &&& (4294967295 : Int64))))) r89_107 rfl rfl h2 <| Er.sT (c2 := (111, [some (.ref x0), some (.int x1), some (.int x2), some (.int x3), some (.int x4), some (.int (x5 + (-1 : Int32))), some (.long x6), none, some (.long s0), none], [], (sal σ (fr x0 4) (((64 : Int32) * x1) + x5).toNatClampNeg (((x6 <<< (x4.toInt64 &&& 63)) ||| (s0 >>> (((32 : Int32) - x4).toInt64 &&& 63))) &&& (4294967295 : Int64))))) r89_108 rfl rfl <| Er.sT (c2 := (15, [some (.ref x0), some (.int x1), some (.int x2), some (.int x3), some (.int x4), some (.int (x5 + (-1 : Int32))), some (.long x6), none, some (.long s0), none], [], (sal σ (fr x0 4) (((64 : Int32) * x1) + x5).toNatClampNeg (((x6 <<< (x4.toInt64 &&& 63)) ||| (s0 >>> (((32 : Int32) - x4).toInt64 &&& 63))) &&& (4294967295 : Int64))))) r89_111 rfl rfl <| k
theorem b89_114 {d : Nat} {x0 : Nat} {x1 : Int32} {x2 : Int32} {x3 : Int32} {x4 : Int32} {x5 : Int32} {o6 : Option Value} {o7 : Option Value} {o8 : Option Value} {o9 : Option Value} {σ : St}  :
    Er (d + 1) 89 (114, [some (.ref x0), some (.int x1), some (.int x2), some (.int x3), some (.int x4), some (.int x5), o6, o7, o8, o9], [], σ) (.inl none, σ, 0) := (Er.ret r89_114 rfl ⟨rfl, rfl, rfl⟩)
/-! NumberModelsModel.divide(IIII)V -/
theorem tab_90 : tab 90 = tb90_0 ++ tb90_1 := rfl
theorem ch90_0 {j : Nat} {r : Row} (h : tb90_0[j]? = some r) : rowAt 90 r.1 = some r := row_mem 90 (by decide) (by rw [tab_90]; exact (List.mem_append_left _ (List.mem_of_getElem? h)))
theorem ch90_1 {j : Nat} {r : Row} (h : tb90_1[j]? = some r) : rowAt 90 r.1 = some r := row_mem 90 (by decide) (by rw [tab_90]; exact (List.mem_append_right _ (List.mem_of_getElem? h)))
theorem r90_0 : rowAt 90 0 = some (r0 0 1 (.aload_n 0)) := ch90_0 (j := 0) rfl
theorem r90_1 : rowAt 90 1 = some (ra 1 2 (.iload_n 3) 3 0 0) := ch90_0 (j := 1) rfl
theorem r90_2 : rowAt 90 2 = some (ra 2 5 (.invokevirtual 24) 79 2 919) := ch90_0 (j := 2) rfl
theorem r90_5 : rowAt 90 5 = some (r0 5 6 (.aload_n 0)) := ch90_0 (j := 3) rfl
theorem r90_6 : rowAt 90 6 = some (ra 6 8 (.iload 4) 4 0 0) := ch90_0 (j := 4) rfl
theorem r90_8 : rowAt 90 8 = some (ra 8 11 (.invokevirtual 24) 79 2 919) := ch90_0 (j := 5) rfl
theorem r90_11 : rowAt 90 11 = some (r0 11 12 (.aload_n 0)) := ch90_0 (j := 6) rfl
theorem r90_12 : rowAt 90 12 = some (ra 12 13 (.iload_n 1) 1 0 0) := ch90_0 (j := 7) rfl
theorem r90_13 : rowAt 90 13 = some (ra 13 16 (.invokevirtual 30) 91 2 968) := ch90_0 (j := 8) rfl
theorem r90_16 : rowAt 90 16 = some (16, 17, .iconst 1, 0, 0, 0, 1, 0) := ch90_0 (j := 9) rfl
theorem r90_17 : rowAt 90 17 = some (r0 17 18 (.isub)) := ch90_0 (j := 10) rfl
theorem r90_18 : rowAt 90 18 = some (ra 18 20 (.istore 5) 5 0 0) := ch90_0 (j := 11) rfl
theorem r90_20 : rowAt 90 20 = some (ra 20 22 (.iload 5) 5 0 0) := ch90_0 (j := 12) rfl
theorem r90_22 : rowAt 90 22 = some (ra 22 25 (.ifCond .lt 78) 100 0 0) := ch90_0 (j := 13) rfl
theorem r90_25 : rowAt 90 25 = some (r0 25 26 (.aload_n 0)) := ch90_0 (j := 14) rfl
theorem r90_26 : rowAt 90 26 = some (ra 26 28 (.iload 4) 4 0 0) := ch90_0 (j := 15) rfl
theorem r90_28 : rowAt 90 28 = some (28, 29, .iconst 1, 0, 0, 0, 1, 0) := ch90_0 (j := 16) rfl
theorem r90_29 : rowAt 90 29 = some (ra 29 32 (.invokevirtual 34) 89 3 960) := ch90_0 (j := 17) rfl
theorem r90_32 : rowAt 90 32 = some (r0 32 33 (.aload_n 0)) := ch90_0 (j := 18) rfl
theorem r90_33 : rowAt 90 33 = some (ra 33 36 (.getfield 17) 4 5 877) := ch90_0 (j := 19) rfl
theorem r90_36 : rowAt 90 36 = some (36, 38, .bipush 64, 0, 0, 0, 64, 0) := ch90_0 (j := 20) rfl
theorem r90_38 : rowAt 90 38 = some (ra 38 40 (.iload 4) 4 0 0) := ch90_0 (j := 21) rfl
theorem r90_40 : rowAt 90 40 = some (r0 40 41 (.imul)) := ch90_0 (j := 22) rfl
theorem r90_41 : rowAt 90 41 = some (r0 41 42 (.dup2)) := ch90_0 (j := 23) rfl
theorem r90_42 : rowAt 90 42 = some (r0 42 43 (.laload)) := ch90_0 (j := 24) rfl
theorem r90_43 : rowAt 90 43 = some (r0 43 44 (.aload_n 0)) := ch90_0 (j := 25) rfl
theorem r90_44 : rowAt 90 44 = some (ra 44 45 (.iload_n 1) 1 0 0) := ch90_0 (j := 26) rfl
theorem r90_45 : rowAt 90 45 = some (ra 45 47 (.iload 5) 5 0 0) := ch90_0 (j := 27) rfl
theorem r90_47 : rowAt 90 47 = some (ra 47 50 (.invokevirtual 38) 92 3 972) := ch90_0 (j := 28) rfl
theorem r90_50 : rowAt 90 50 = some (r0 50 51 (.lor)) := ch90_0 (j := 29) rfl
theorem r90_51 : rowAt 90 51 = some (r0 51 52 (.lastore)) := ch90_0 (j := 30) rfl
theorem r90_52 : rowAt 90 52 = some (r0 52 53 (.aload_n 0)) := ch90_0 (j := 31) rfl
theorem r90_53 : rowAt 90 53 = some (ra 53 55 (.iload 4) 4 0 0) := ch90_0 (j := 32) rfl
theorem r90_55 : rowAt 90 55 = some (ra 55 56 (.iload_n 2) 2 0 0) := ch90_0 (j := 33) rfl
theorem r90_56 : rowAt 90 56 = some (ra 56 59 (.invokevirtual 42) 86 3 948) := ch90_0 (j := 34) rfl
theorem r90_59 : rowAt 90 59 = some (ra 59 62 (.ifCond .lt 35) 94 0 0) := ch90_0 (j := 35) rfl
theorem r90_62 : rowAt 90 62 = some (r0 62 63 (.aload_n 0)) := ch90_0 (j := 36) rfl
theorem r90_63 : rowAt 90 63 = some (ra 63 65 (.iload 4) 4 0 0) := ch90_0 (j := 37) rfl
theorem r90_65 : rowAt 90 65 = some (ra 65 66 (.iload_n 2) 2 0 0) := ch90_0 (j := 38) rfl
theorem r90_66 : rowAt 90 66 = some (ra 66 69 (.invokevirtual 46) 88 3 956) := ch90_0 (j := 39) rfl
theorem r90_69 : rowAt 90 69 = some (r0 69 70 (.aload_n 0)) := ch90_0 (j := 40) rfl
theorem r90_70 : rowAt 90 70 = some (ra 70 73 (.getfield 17) 4 5 877) := ch90_0 (j := 41) rfl
theorem r90_73 : rowAt 90 73 = some (73, 75, .bipush 64, 0, 0, 0, 64, 0) := ch90_0 (j := 42) rfl
theorem r90_75 : rowAt 90 75 = some (ra 75 76 (.iload_n 3) 3 0 0) := ch90_0 (j := 43) rfl
theorem r90_76 : rowAt 90 76 = some (r0 76 77 (.imul)) := ch90_0 (j := 44) rfl
theorem r90_77 : rowAt 90 77 = some (ra 77 79 (.iload 5) 5 0 0) := ch90_0 (j := 45) rfl
theorem r90_79 : rowAt 90 79 = some (79, 81, .bipush 32, 0, 0, 0, 32, 0) := ch90_0 (j := 46) rfl
theorem r90_81 : rowAt 90 81 = some (r0 81 82 (.idiv)) := ch90_0 (j := 47) rfl
theorem r90_82 : rowAt 90 82 = some (r0 82 83 (.iadd)) := ch90_0 (j := 48) rfl
theorem r90_83 : rowAt 90 83 = some (r0 83 84 (.dup2)) := ch90_0 (j := 49) rfl
theorem r90_84 : rowAt 90 84 = some (r0 84 85 (.laload)) := ch90_0 (j := 50) rfl
theorem r90_85 : rowAt 90 85 = some (85, 86, .lconst 1, 0, 0, 0, 0, 1) := ch90_0 (j := 51) rfl
theorem r90_86 : rowAt 90 86 = some (ra 86 88 (.iload 5) 5 0 0) := ch90_0 (j := 52) rfl
theorem r90_88 : rowAt 90 88 = some (88, 90, .bipush 32, 0, 0, 0, 32, 0) := ch90_0 (j := 53) rfl
theorem r90_90 : rowAt 90 90 = some (r0 90 91 (.irem)) := ch90_0 (j := 54) rfl
theorem r90_91 : rowAt 90 91 = some (r0 91 92 (.lshl)) := ch90_0 (j := 55) rfl
theorem r90_92 : rowAt 90 92 = some (r0 92 93 (.lor)) := ch90_0 (j := 56) rfl
theorem r90_93 : rowAt 90 93 = some (r0 93 94 (.lastore)) := ch90_0 (j := 57) rfl
theorem r90_94 : rowAt 90 94 = some (94, 97, .iinc 5 (-1), 5, 0, 0, (-1), 0) := ch90_0 (j := 58) rfl
theorem r90_97 : rowAt 90 97 = some (ra 97 100 (.goto (-77)) 20 0 0) := ch90_0 (j := 59) rfl
theorem r90_100 : rowAt 90 100 = some (r0 100 101 (.return_)) := ch90_1 (j := 0) rfl
theorem b90_0 {d : Nat} {q : Rs} {x0 : Nat} {x1 : Int32} {x2 : Int32} {x3 : Int32} {x4 : Int32} {σ : St} {σ2 : St}  (h1 : x0 < 24 ∧ kls x0 = 5)
    (hy : Er d 79 (0, ent 79 [.ref x0, .int x3], [], σ) (.inl none, σ2, 0))
    (k : Er (d + 1) 90 (5, [some (.ref x0), some (.int x1), some (.int x2), some (.int x3), some (.int x4), none], [], σ2) q) :
    Er (d + 1) 90 (0, [some (.ref x0), some (.int x1), some (.int x2), some (.int x3), some (.int x4), none], [], σ) q := Er.sT (c2 := (1, [some (.ref x0), some (.int x1), some (.int x2), some (.int x3), some (.int x4), none], [.ref x0], σ)) r90_0 rfl rfl <| Er.sT (c2 := (2, [some (.ref x0), some (.int x1), some (.int x2), some (.int x3), some (.int x4), none], [.int x3, .ref x0], σ)) r90_1 rfl rfl <| (Er.call (vs := [.ref x0, .int x3]) (rest := []) r90_2 rfl rfl (Nat.le_of_ble_eq_true rfl) (Nat.le_of_ble_eq_true rfl) (fun _ => ⟨_, _, rfl, h1⟩) hy k)
theorem b90_5 {d : Nat} {q : Rs} {x0 : Nat} {x1 : Int32} {x2 : Int32} {x3 : Int32} {x4 : Int32} {σ : St} {σ2 : St}  (h1 : x0 < 24 ∧ kls x0 = 5)
    (hy : Er d 79 (0, ent 79 [.ref x0, .int x4], [], σ) (.inl none, σ2, 0))
    (k : Er (d + 1) 90 (11, [some (.ref x0), some (.int x1), some (.int x2), some (.int x3), some (.int x4), none], [], σ2) q) :
    Er (d + 1) 90 (5, [some (.ref x0), some (.int x1), some (.int x2), some (.int x3), some (.int x4), none], [], σ) q := Er.sT (c2 := (6, [some (.ref x0), some (.int x1), some (.int x2), some (.int x3), some (.int x4), none], [.ref x0], σ)) r90_5 rfl rfl <| Er.sT (c2 := (8, [some (.ref x0), some (.int x1), some (.int x2), some (.int x3), some (.int x4), none], [.int x4, .ref x0], σ)) r90_6 rfl rfl <| (Er.call (vs := [.ref x0, .int x4]) (rest := []) r90_8 rfl rfl (Nat.le_of_ble_eq_true rfl) (Nat.le_of_ble_eq_true rfl) (fun _ => ⟨_, _, rfl, h1⟩) hy k)
theorem b90_11 {d : Nat} {q : Rs} {x0 : Nat} {x1 : Int32} {x2 : Int32} {x3 : Int32} {x4 : Int32} {σ : St} {σ2 : St} {r : Int32} (h1 : x0 < 24 ∧ kls x0 = 5)
    (hy : Er d 91 (0, ent 91 [.ref x0, .int x1], [], σ) (.inl (some (.int r)), σ2, 0))
    (k : Er (d + 1) 90 (16, [some (.ref x0), some (.int x1), some (.int x2), some (.int x3), some (.int x4), none], [.int r], σ2) q) :
    Er (d + 1) 90 (11, [some (.ref x0), some (.int x1), some (.int x2), some (.int x3), some (.int x4), none], [], σ) q := Er.sT (c2 := (12, [some (.ref x0), some (.int x1), some (.int x2), some (.int x3), some (.int x4), none], [.ref x0], σ)) r90_11 rfl rfl <| Er.sT (c2 := (13, [some (.ref x0), some (.int x1), some (.int x2), some (.int x3), some (.int x4), none], [.int x1, .ref x0], σ)) r90_12 rfl rfl <| (Er.call (vs := [.ref x0, .int x1]) (rest := []) r90_13 rfl rfl (Nat.le_of_ble_eq_true rfl) (Nat.le_of_ble_eq_true rfl) (fun _ => ⟨_, _, rfl, h1⟩) hy k)
theorem b90_16 {d : Nat} {q : Rs} {x0 : Nat} {x1 : Int32} {x2 : Int32} {x3 : Int32} {x4 : Int32} {s0 : Int32} {σ : St} 
    (k : Er (d + 1) 90 (20, [some (.ref x0), some (.int x1), some (.int x2), some (.int x3), some (.int x4), some (.int (s0 - (1 : Int32)))], [], σ) q) :
    Er (d + 1) 90 (16, [some (.ref x0), some (.int x1), some (.int x2), some (.int x3), some (.int x4), none], [.int s0], σ) q := Er.sT (c2 := (17, [some (.ref x0), some (.int x1), some (.int x2), some (.int x3), some (.int x4), none], [.int (1 : Int32), .int s0], σ)) r90_16 rfl rfl <| Er.sT (c2 := (18, [some (.ref x0), some (.int x1), some (.int x2), some (.int x3), some (.int x4), none], [.int (s0 - (1 : Int32))], σ)) r90_17 rfl rfl <| Er.sT (c2 := (20, [some (.ref x0), some (.int x1), some (.int x2), some (.int x3), some (.int x4), some (.int (s0 - (1 : Int32)))], [], σ)) r90_18 rfl rfl <| k
theorem b90_20 {d : Nat} {q : Rs} {x0 : Nat} {x1 : Int32} {x2 : Int32} {x3 : Int32} {x4 : Int32} {x5 : Int32} {σ : St} 
    (kt : x5 < (0 : Int32) → Er (d + 1) 90 (100, [some (.ref x0), some (.int x1), some (.int x2), some (.int x3), some (.int x4), some (.int x5)], [], σ) q)
    (kf : ¬ x5 < (0 : Int32) → Er (d + 1) 90 (25, [some (.ref x0), some (.int x1), some (.int x2), some (.int x3), some (.int x4), some (.int x5)], [], σ) q) :
    Er (d + 1) 90 (20, [some (.ref x0), some (.int x1), some (.int x2), some (.int x3), some (.int x4), some (.int x5)], [], σ) q := Er.sT (c2 := (22, [some (.ref x0), some (.int x1), some (.int x2), some (.int x3), some (.int x4), some (.int x5)], [.int x5], σ)) r90_20 rfl rfl <| Er.sT (c2 := (brn .lt x5 (0 : Int32) 100 25, [some (.ref x0), some (.int x1), some (.int x2), some (.int x3), some (.int x4), some (.int x5)], [], σ)) r90_22 rfl rfl <| (br_lt kt kf)
theorem b90_25 {d : Nat} {q : Rs} {x0 : Nat} {x1 : Int32} {x2 : Int32} {x3 : Int32} {x4 : Int32} {x5 : Int32} {σ : St} {σ2 : St}  (h1 : x0 < 24 ∧ kls x0 = 5)
    (hy : Er d 89 (0, ent 89 [.ref x0, .int x4, .int (1 : Int32)], [], σ) (.inl none, σ2, 0))
    (k : Er (d + 1) 90 (32, [some (.ref x0), some (.int x1), some (.int x2), some (.int x3), some (.int x4), some (.int x5)], [], σ2) q) :
    Er (d + 1) 90 (25, [some (.ref x0), some (.int x1), some (.int x2), some (.int x3), some (.int x4), some (.int x5)], [], σ) q := Er.sT (c2 := (26, [some (.ref x0), some (.int x1), some (.int x2), some (.int x3), some (.int x4), some (.int x5)], [.ref x0], σ)) r90_25 rfl rfl <| Er.sT (c2 := (28, [some (.ref x0), some (.int x1), some (.int x2), some (.int x3), some (.int x4), some (.int x5)], [.int x4, .ref x0], σ)) r90_26 rfl rfl <| Er.sT (c2 := (29, [some (.ref x0), some (.int x1), some (.int x2), some (.int x3), some (.int x4), some (.int x5)], [.int (1 : Int32), .int x4, .ref x0], σ)) r90_28 rfl rfl <| (Er.call (vs := [.ref x0, .int x4, .int (1 : Int32)]) (rest := []) r90_29 rfl rfl (Nat.le_of_ble_eq_true rfl) (Nat.le_of_ble_eq_true rfl) (fun _ => ⟨_, _, rfl, h1⟩) hy k)
theorem b90_32 {d : Nat} {q : Rs} {x0 : Nat} {x1 : Int32} {x2 : Int32} {x3 : Int32} {x4 : Int32} {x5 : Int32} {σ : St} {σ2 : St} {r : Int64} (h1 : x0 < 24 ∧ kls x0 = 5) (h2 : isL (fr x0 4) ∧ vp_in ((64 : Int32) * x4) (ale (fr x0 4)))
    (hy : Er d 92 (0, ent 92 [.ref x0, .int x1, .int x5], [], σ) (.inl (some (.long r)), σ2, 0))
    (k : Er (d + 1) 90 (50, [some (.ref x0), some (.int x1), some (.int x2), some (.int x3), some (.int x4), some (.int x5)], [.long r, .long (gal σ (fr x0 4) ((64 : Int32) * x4).toNatClampNeg), .int ((64 : Int32) * x4), .ref (fr x0 4)], σ2) q) :
    Er (d + 1) 90 (32, [some (.ref x0), some (.int x1), some (.int x2), some (.int x3), some (.int x4), some (.int x5)], [], σ) q := Er.sT (c2 := (33, [some (.ref x0), some (.int x1), some (.int x2), some (.int x3), some (.int x4), some (.int x5)], [.ref x0], σ)) r90_32 rfl rfl <| Er.st (P := (x0 < 24 ∧ kls x0 = 5)) (c2 := (36, [some (.ref x0), some (.int x1), some (.int x2), some (.int x3), some (.int x4), some (.int x5)], [.ref (fr x0 4)], σ)) r90_33 rfl rfl h1 <| Er.sT (c2 := (38, [some (.ref x0), some (.int x1), some (.int x2), some (.int x3), some (.int x4), some (.int x5)], [.int (64 : Int32), .ref (fr x0 4)], σ)) r90_36 rfl rfl <| Er.sT (c2 := (40, [some (.ref x0), some (.int x1), some (.int x2), some (.int x3), some (.int x4), some (.int x5)], [.int x4, .int (64 : Int32), .ref (fr x0 4)], σ)) r90_38 rfl rfl <| Er.sT (c2 := (41, [some (.ref x0), some (.int x1), some (.int x2), some (.int x3), some (.int x4), some (.int x5)], [.int ((64 : Int32) * x4), .ref (fr x0 4)], σ)) r90_40 rfl rfl <| Er.sT (c2 := (42, [some (.ref x0), some (.int x1), some (.int x2), some (.int x3), some (.int x4), some (.int x5)], [.int ((64 : Int32) * x4), .ref (fr x0 4), .int ((64 : Int32) * x4), .ref (fr x0 4)], σ)) r90_41 rfl rfl <| Er.st (P := (isL (fr x0 4) ∧ vp_in ((64 : Int32) * x4) (ale (fr x0 4)))) (c2 := (43, [some (.ref x0), some (.int x1), some (.int x2), some (.int x3), some (.int x4), some (.int x5)], [.long (gal σ (fr x0 4) ((64 : Int32) * x4).toNatClampNeg), .int ((64 : Int32) * x4), .ref (fr x0 4)], σ)) r90_42 rfl rfl h2 <| Er.sT (c2 := (44, [some (.ref x0), some (.int x1), some (.int x2), some (.int x3), some (.int x4), some (.int x5)], [.ref x0, .long (gal σ (fr x0 4) ((64 : Int32) * x4).toNatClampNeg), .int ((64 : Int32) * x4), .ref (fr x0 4)], σ)) r90_43 rfl rfl <| Er.sT (c2 := (45, [some (.ref x0), some (.int x1), some (.int x2), some (.int x3), some (.int x4), some (.int x5)], [.int x1, .ref x0, .long (gal σ (fr x0 4) ((64 : Int32) * x4).toNatClampNeg), .int ((64 : Int32) * x4), .ref (fr x0 4)], σ)) r90_44 rfl rfl <| Er.sT (c2 := (47, [some (.ref x0), some (.int x1), some (.int x2), some (.int x3), some (.int x4), some (.int x5)], [.int x5, .int x1, .ref x0, .long (gal σ (fr x0 4) ((64 : Int32) * x4).toNatClampNeg), .int ((64 : Int32) * x4), .ref (fr x0 4)], σ)) r90_45 rfl rfl <| (Er.call (vs := [.ref x0, .int x1, .int x5]) (rest := [.long (gal σ (fr x0 4) ((64 : Int32) * x4).toNatClampNeg), .int ((64 : Int32) * x4), .ref (fr x0 4)]) r90_47 rfl rfl (Nat.le_of_ble_eq_true rfl) (Nat.le_of_ble_eq_true rfl) (fun _ => ⟨_, _, rfl, h1⟩) hy k)
theorem b90_50 {d : Nat} {q : Rs} {x0 : Nat} {x1 : Int32} {x2 : Int32} {x3 : Int32} {x4 : Int32} {x5 : Int32} {s0 : Nat} {s1 : Int32} {s2 : Int64} {s3 : Int64} {σ : St} {σ2 : St} {r : Int32} (h1 : isL s0 ∧ vp_in s1 (ale s0)) (h2 : x0 < 24 ∧ kls x0 = 5)
    (hy : Er d 86 (0, ent 86 [.ref x0, .int x4, .int x2], [], (sal σ s0 s1.toNatClampNeg (s2 ||| s3))) (.inl (some (.int r)), σ2, 0))
    (k : Er (d + 1) 90 (59, [some (.ref x0), some (.int x1), some (.int x2), some (.int x3), some (.int x4), some (.int x5)], [.int r], σ2) q) :
    Er (d + 1) 90 (50, [some (.ref x0), some (.int x1), some (.int x2), some (.int x3), some (.int x4), some (.int x5)], [.long s3, .long s2, .int s1, .ref s0], σ) q := Er.sT (c2 := (51, [some (.ref x0), some (.int x1), some (.int x2), some (.int x3), some (.int x4), some (.int x5)], [.long (s2 ||| s3), .int s1, .ref s0], σ)) r90_50 rfl rfl <| Er.st (P := (isL s0 ∧ vp_in s1 (ale s0))) (c2 := (52, [some (.ref x0), some (.int x1), some (.int x2), some (.int x3), some (.int x4), some (.int x5)], [], (sal σ s0 s1.toNatClampNeg (s2 ||| s3)))) r90_51 rfl rfl h1 <| Er.sT (c2 := (53, [some (.ref x0), some (.int x1), some (.int x2), some (.int x3), some (.int x4), some (.int x5)], [.ref x0], (sal σ s0 s1.toNatClampNeg (s2 ||| s3)))) r90_52 rfl rfl <| Er.sT (c2 := (55, [some (.ref x0), some (.int x1), some (.int x2), some (.int x3), some (.int x4), some (.int x5)], [.int x4, .ref x0], (sal σ s0 s1.toNatClampNeg (s2 ||| s3)))) r90_53 rfl rfl <| Er.sT (c2 := (56, [some (.ref x0), some (.int x1), some (.int x2), some (.int x3), some (.int x4), some (.int x5)], [.int x2, .int x4, .ref x0], (sal σ s0 s1.toNatClampNeg (s2 ||| s3)))) r90_55 rfl rfl <| (Er.call (vs := [.ref x0, .int x4, .int x2]) (rest := []) r90_56 rfl rfl (Nat.le_of_ble_eq_true rfl) (Nat.le_of_ble_eq_true rfl) (fun _ => ⟨_, _, rfl, h2⟩) hy k)
theorem b90_59 {d : Nat} {q : Rs} {x0 : Nat} {x1 : Int32} {x2 : Int32} {x3 : Int32} {x4 : Int32} {x5 : Int32} {s0 : Int32} {σ : St} 
    (kt : s0 < (0 : Int32) → Er (d + 1) 90 (94, [some (.ref x0), some (.int x1), some (.int x2), some (.int x3), some (.int x4), some (.int x5)], [], σ) q)
    (kf : ¬ s0 < (0 : Int32) → Er (d + 1) 90 (62, [some (.ref x0), some (.int x1), some (.int x2), some (.int x3), some (.int x4), some (.int x5)], [], σ) q) :
    Er (d + 1) 90 (59, [some (.ref x0), some (.int x1), some (.int x2), some (.int x3), some (.int x4), some (.int x5)], [.int s0], σ) q := Er.sT (c2 := (brn .lt s0 (0 : Int32) 94 62, [some (.ref x0), some (.int x1), some (.int x2), some (.int x3), some (.int x4), some (.int x5)], [], σ)) r90_59 rfl rfl <| (br_lt kt kf)
theorem b90_62 {d : Nat} {q : Rs} {x0 : Nat} {x1 : Int32} {x2 : Int32} {x3 : Int32} {x4 : Int32} {x5 : Int32} {σ : St} {σ2 : St}  (h1 : x0 < 24 ∧ kls x0 = 5)
    (hy : Er d 88 (0, ent 88 [.ref x0, .int x4, .int x2], [], σ) (.inl none, σ2, 0))
    (k : Er (d + 1) 90 (69, [some (.ref x0), some (.int x1), some (.int x2), some (.int x3), some (.int x4), some (.int x5)], [], σ2) q) :
    Er (d + 1) 90 (62, [some (.ref x0), some (.int x1), some (.int x2), some (.int x3), some (.int x4), some (.int x5)], [], σ) q := Er.sT (c2 := (63, [some (.ref x0), some (.int x1), some (.int x2), some (.int x3), some (.int x4), some (.int x5)], [.ref x0], σ)) r90_62 rfl rfl <| Er.sT (c2 := (65, [some (.ref x0), some (.int x1), some (.int x2), some (.int x3), some (.int x4), some (.int x5)], [.int x4, .ref x0], σ)) r90_63 rfl rfl <| Er.sT (c2 := (66, [some (.ref x0), some (.int x1), some (.int x2), some (.int x3), some (.int x4), some (.int x5)], [.int x2, .int x4, .ref x0], σ)) r90_65 rfl rfl <| (Er.call (vs := [.ref x0, .int x4, .int x2]) (rest := []) r90_66 rfl rfl (Nat.le_of_ble_eq_true rfl) (Nat.le_of_ble_eq_true rfl) (fun _ => ⟨_, _, rfl, h1⟩) hy k)
theorem b90_69 {d : Nat} {q : Rs} {x0 : Nat} {x1 : Int32} {x2 : Int32} {x3 : Int32} {x4 : Int32} {x5 : Int32} {σ : St} (h1 : x0 < 24 ∧ kls x0 = 5) (h2 : ¬ (32 : Int32) = 0) (h3 : isL (fr x0 4) ∧ vp_in (((64 : Int32) * x3) + (x5 / (32 : Int32))) (ale (fr x0 4)))
    (k : Er (d + 1) 90 (94, [some (.ref x0), some (.int x1), some (.int x2), some (.int x3), some (.int x4), some (.int x5)], [], (sal σ (fr x0 4) (((64 : Int32) * x3) + (x5 / (32 : Int32))).toNatClampNeg ((gal σ (fr x0 4) (((64 : Int32) * x3) + (x5 / (32 : Int32))).toNatClampNeg) ||| ((1 : Int64) <<< ((x5 - x5 / (32 : Int32) * (32 : Int32)).toInt64 &&& 63))))) q) :
    Er (d + 1) 90 (69, [some (.ref x0), some (.int x1), some (.int x2), some (.int x3), some (.int x4), some (.int x5)], [], σ) q := Er.sT (c2 := (70, [some (.ref x0), some (.int x1), some (.int x2), some (.int x3), some (.int x4), some (.int x5)], [.ref x0], σ)) r90_69 rfl rfl <| Er.st (P := (x0 < 24 ∧ kls x0 = 5)) (c2 := (73, [some (.ref x0), some (.int x1), some (.int x2), some (.int x3), some (.int x4), some (.int x5)], [.ref (fr x0 4)], σ)) r90_70 rfl rfl h1 <| Er.sT (c2 := (75, [some (.ref x0), some (.int x1), some (.int x2), some (.int x3), some (.int x4), some (.int x5)], [.int (64 : Int32), .ref (fr x0 4)], σ)) r90_73 rfl rfl <| Er.sT (c2 := (76, [some (.ref x0), some (.int x1), some (.int x2), some (.int x3), some (.int x4), some (.int x5)], [.int x3, .int (64 : Int32), .ref (fr x0 4)], σ)) r90_75 rfl rfl <| Er.sT (c2 := (77, [some (.ref x0), some (.int x1), some (.int x2), some (.int x3), some (.int x4), some (.int x5)], [.int ((64 : Int32) * x3), .ref (fr x0 4)], σ)) r90_76 rfl rfl <| Er.sT (c2 := (79, [some (.ref x0), some (.int x1), some (.int x2), some (.int x3), some (.int x4), some (.int x5)], [.int x5, .int ((64 : Int32) * x3), .ref (fr x0 4)], σ)) r90_77 rfl rfl <| Er.sT (c2 := (81, [some (.ref x0), some (.int x1), some (.int x2), some (.int x3), some (.int x4), some (.int x5)], [.int (32 : Int32), .int x5, .int ((64 : Int32) * x3), .ref (fr x0 4)], σ)) r90_79 rfl rfl <| Er.st (P := (¬ (32 : Int32) = 0)) (c2 := (82, [some (.ref x0), some (.int x1), some (.int x2), some (.int x3), some (.int x4), some (.int x5)], [.int (x5 / (32 : Int32)), .int ((64 : Int32) * x3), .ref (fr x0 4)], σ)) r90_81 rfl rfl h2 <| Er.sT (c2 := (83, [some (.ref x0), some (.int x1), some (.int x2), some (.int x3), some (.int x4), some (.int x5)], [.int (((64 : Int32) * x3) + (x5 / (32 : Int32))), .ref (fr x0 4)], σ)) r90_82 rfl rfl <| Er.sT (c2 := (84, [some (.ref x0), some (.int x1), some (.int x2), some (.int x3), some (.int x4), some (.int x5)], [.int (((64 : Int32) * x3) + (x5 / (32 : Int32))), .ref (fr x0 4), .int (((64 : Int32) * x3) + (x5 / (32 : Int32))), .ref (fr x0 4)], σ)) r90_83 rfl rfl <| Er.st (P := (isL (fr x0 4) ∧ vp_in (((64 : Int32) * x3) + (x5 / (32 : Int32))) (ale (fr x0 4)))) (c2 := (85, [some (.ref x0), some (.int x1), some (.int x2), some (.int x3), some (.int x4), some (.int x5)], [.long (gal σ (fr x0 4) (((64 : Int32) * x3) + (x5 / (32 : Int32))).toNatClampNeg), .int (((64 : Int32) * x3) + (x5 / (32 : Int32))), .ref (fr x0 4)], σ)) r90_84 rfl rfl h3 <| Er.sT (c2 := (86, [some (.ref x0), some (.int x1), some (.int x2), some (.int x3), some (.int x4), some (.int x5)], [.long (1 : Int64), .long (gal σ (fr x0 4) (((64 : Int32) * x3) + (x5 / (32 : Int32))).toNatClampNeg), .int (((64 : Int32) * x3) + (x5 / (32 : Int32))), .ref (fr x0 4)], σ)) r90_85 rfl rfl <| Er.sT (c2 := (88, [some (.ref x0), some (.int x1), some (.int x2), some (.int x3), some (.int x4), some (.int x5)], [.int x5, .long (1 : Int64), .long (gal σ (fr x0 4) (((64 : Int32) * x3) + (x5 / (32 : Int32))).toNatClampNeg), .int (((64 : Int32) * x3) + (x5 / (32 : Int32))), .ref (fr x0 4)], σ)) r90_86 rfl rfl <| Er.sT (c2 := (90, [some (.ref x0), some (.int x1), some (.int x2), some (.int x3), some (.int x4), some (.int x5)], [.int (32 : Int32), .int x5, .long (1 : Int64), .long (gal σ (fr x0 4) (((64 : Int32) * x3) + (x5 / (32 : Int32))).toNatClampNeg), .int (((64 : Int32) * x3) + (x5 / (32 : Int32))), .ref (fr x0 4)], σ)) r90_88 rfl rfl <| Er.st (P := (¬ (32 : Int32) = 0)) (c2 := (91, [some (.ref x0), some (.int x1), some (.int x2), some (.int x3), some (.int x4), some (.int x5)], [.int (x5 - x5 / (32 : Int32) * (32 : Int32)), .long (1 : Int64), .long (gal σ (fr x0 4) (((64 : Int32) * x3) + (x5 / (32 : Int32))).toNatClampNeg), .int (((64 : Int32) * x3) + (x5 / (32 : Int32))), .ref (fr x0 4)], σ)) r90_90 rfl rfl h2 <| Er.sT (c2 := (92, [some (.ref x0), some (.int x1), some (.int x2), some (.int x3), some (.int x4), some (.int x5)], [.long ((1 : Int64) <<< ((x5 - x5 / (32 : Int32) * (32 : Int32)).toInt64 &&& 63)), .long (gal σ (fr x0 4) (((64 : Int32) * x3) + (x5 / (32 : Int32))).toNatClampNeg), .int (((64 : Int32) * x3) + (x5 / (32 : Int32))), .ref (fr x0 4)], σ)) r90_91 rfl rfl <| Er.sT (c2 := (93, [some (.ref x0), some (.int x1), some (.int x2), some (.int x3), some (.int x4), some (.int x5)], [.long ((gal σ (fr x0 4) (((64 : Int32) * x3) + (x5 / (32 : Int32))).toNatClampNeg) ||| ((1 : Int64) <<< ((x5 - x5 / (32 : Int32) * (32 : Int32)).toInt64 &&& 63))), .int (((64 : Int32) * x3) + (x5 / (32 : Int32))), .ref (fr x0 4)], σ)) r90_92 rfl rfl <| Er.st (P := (isL (fr x0 4) ∧ vp_in (((64 : Int32) * x3) + (x5 / (32 : Int32))) (ale (fr x0 4)))) (c2 := (94, [some (.ref x0), some (.int x1), some (.int x2), some (.int x3), some (.int x4), some (.int x5)], [], (sal σ (fr x0 4) (((64 : Int32) * x3) + (x5 / (32 : Int32))).toNatClampNeg ((gal σ (fr x0 4) (((64 : Int32) * x3) + (x5 / (32 : Int32))).toNatClampNeg) ||| ((1 : Int64) <<< ((x5 - x5 / (32 : Int32) * (32 : Int32)).toInt64 &&& 63)))))) r90_93 rfl rfl h3 <| k
theorem b90_94 {d : Nat} {q : Rs} {x0 : Nat} {x1 : Int32} {x2 : Int32} {x3 : Int32} {x4 : Int32} {x5 : Int32} {σ : St} 
    (k : Er (d + 1) 90 (20, [some (.ref x0), some (.int x1), some (.int x2), some (.int x3), some (.int x4), some (.int (x5 + (-1 : Int32)))], [], σ) q) :
    Er (d + 1) 90 (94, [some (.ref x0), some (.int x1), some (.int x2), some (.int x3), some (.int x4), some (.int x5)], [], σ) q := Er.sT (c2 := (97, [some (.ref x0), some (.int x1), some (.int x2), some (.int x3), some (.int x4), some (.int (x5 + (-1 : Int32)))], [], σ)) r90_94 rfl rfl <| Er.sT (c2 := (20, [some (.ref x0), some (.int x1), some (.int x2), some (.int x3), some (.int x4), some (.int (x5 + (-1 : Int32)))], [], σ)) r90_97 rfl rfl <| k
theorem b90_100 {d : Nat} {x0 : Nat} {x1 : Int32} {x2 : Int32} {x3 : Int32} {x4 : Int32} {x5 : Int32} {σ : St}  :
    Er (d + 1) 90 (100, [some (.ref x0), some (.int x1), some (.int x2), some (.int x3), some (.int x4), some (.int x5)], [], σ) (.inl none, σ, 0) := (Er.ret r90_100 rfl ⟨rfl, rfl, rfl⟩)
/-! NumberModelsModel.length(I)I -/
theorem tab_91 : tab 91 = tb91_0 := rfl
theorem ch91_0 {j : Nat} {r : Row} (h : tb91_0[j]? = some r) : rowAt 91 r.1 = some r := row_mem 91 (by decide) (by rw [tab_91]; exact List.mem_of_getElem? h)
theorem r91_0 : rowAt 91 0 = some (0, 2, .bipush 63, 0, 0, 0, 63, 0) := ch91_0 (j := 0) rfl
theorem r91_2 : rowAt 91 2 = some (ra 2 3 (.istore_n 2) 2 0 0) := ch91_0 (j := 1) rfl
theorem r91_3 : rowAt 91 3 = some (ra 3 4 (.iload_n 2) 2 0 0) := ch91_0 (j := 2) rfl
theorem r91_4 : rowAt 91 4 = some (ra 4 7 (.ifCond .lt 63) 67 0 0) := ch91_0 (j := 3) rfl
theorem r91_7 : rowAt 91 7 = some (r0 7 8 (.aload_n 0)) := ch91_0 (j := 4) rfl
theorem r91_8 : rowAt 91 8 = some (ra 8 11 (.getfield 17) 4 5 877) := ch91_0 (j := 5) rfl
theorem r91_11 : rowAt 91 11 = some (11, 13, .bipush 64, 0, 0, 0, 64, 0) := ch91_0 (j := 6) rfl
theorem r91_13 : rowAt 91 13 = some (ra 13 14 (.iload_n 1) 1 0 0) := ch91_0 (j := 7) rfl
theorem r91_14 : rowAt 91 14 = some (r0 14 15 (.imul)) := ch91_0 (j := 8) rfl
theorem r91_15 : rowAt 91 15 = some (ra 15 16 (.iload_n 2) 2 0 0) := ch91_0 (j := 9) rfl
theorem r91_16 : rowAt 91 16 = some (r0 16 17 (.iadd)) := ch91_0 (j := 10) rfl
theorem r91_17 : rowAt 91 17 = some (r0 17 18 (.laload)) := ch91_0 (j := 11) rfl
theorem r91_18 : rowAt 91 18 = some (r0 18 19 (.lconst 0)) := ch91_0 (j := 12) rfl
theorem r91_19 : rowAt 91 19 = some (r0 19 20 (.lcmp)) := ch91_0 (j := 13) rfl
theorem r91_20 : rowAt 91 20 = some (ra 20 23 (.ifCond .eq 41) 61 0 0) := ch91_0 (j := 14) rfl
theorem r91_23 : rowAt 91 23 = some (23, 25, .bipush 32, 0, 0, 0, 32, 0) := ch91_0 (j := 15) rfl
theorem r91_25 : rowAt 91 25 = some (ra 25 26 (.istore_n 3) 3 0 0) := ch91_0 (j := 16) rfl
theorem r91_26 : rowAt 91 26 = some (r0 26 27 (.aload_n 0)) := ch91_0 (j := 17) rfl
theorem r91_27 : rowAt 91 27 = some (ra 27 30 (.getfield 17) 4 5 877) := ch91_0 (j := 18) rfl
theorem r91_30 : rowAt 91 30 = some (30, 32, .bipush 64, 0, 0, 0, 64, 0) := ch91_0 (j := 19) rfl
theorem r91_32 : rowAt 91 32 = some (ra 32 33 (.iload_n 1) 1 0 0) := ch91_0 (j := 20) rfl
theorem r91_33 : rowAt 91 33 = some (r0 33 34 (.imul)) := ch91_0 (j := 21) rfl
theorem r91_34 : rowAt 91 34 = some (ra 34 35 (.iload_n 2) 2 0 0) := ch91_0 (j := 22) rfl
theorem r91_35 : rowAt 91 35 = some (r0 35 36 (.iadd)) := ch91_0 (j := 23) rfl
theorem r91_36 : rowAt 91 36 = some (r0 36 37 (.laload)) := ch91_0 (j := 24) rfl
theorem r91_37 : rowAt 91 37 = some (ra 37 38 (.iload_n 3) 3 0 0) := ch91_0 (j := 25) rfl
theorem r91_38 : rowAt 91 38 = some (38, 39, .iconst 1, 0, 0, 0, 1, 0) := ch91_0 (j := 26) rfl
theorem r91_39 : rowAt 91 39 = some (r0 39 40 (.isub)) := ch91_0 (j := 27) rfl
theorem r91_40 : rowAt 91 40 = some (r0 40 41 (.lshr)) := ch91_0 (j := 28) rfl
theorem r91_41 : rowAt 91 41 = some (41, 42, .lconst 1, 0, 0, 0, 0, 1) := ch91_0 (j := 29) rfl
theorem r91_42 : rowAt 91 42 = some (r0 42 43 (.land)) := ch91_0 (j := 30) rfl
theorem r91_43 : rowAt 91 43 = some (r0 43 44 (.lconst 0)) := ch91_0 (j := 31) rfl
theorem r91_44 : rowAt 91 44 = some (r0 44 45 (.lcmp)) := ch91_0 (j := 32) rfl
theorem r91_45 : rowAt 91 45 = some (ra 45 48 (.ifCond .ne 9) 54 0 0) := ch91_0 (j := 33) rfl
theorem r91_48 : rowAt 91 48 = some (48, 51, .iinc 3 (-1), 3, 0, 0, (-1), 0) := ch91_0 (j := 34) rfl
theorem r91_51 : rowAt 91 51 = some (ra 51 54 (.goto (-25)) 26 0 0) := ch91_0 (j := 35) rfl
theorem r91_54 : rowAt 91 54 = some (54, 56, .bipush 32, 0, 0, 0, 32, 0) := ch91_0 (j := 36) rfl
theorem r91_56 : rowAt 91 56 = some (ra 56 57 (.iload_n 2) 2 0 0) := ch91_0 (j := 37) rfl
theorem r91_57 : rowAt 91 57 = some (r0 57 58 (.imul)) := ch91_0 (j := 38) rfl
theorem r91_58 : rowAt 91 58 = some (ra 58 59 (.iload_n 3) 3 0 0) := ch91_0 (j := 39) rfl
theorem r91_59 : rowAt 91 59 = some (r0 59 60 (.iadd)) := ch91_0 (j := 40) rfl
theorem r91_60 : rowAt 91 60 = some (r0 60 61 (.ireturn)) := ch91_0 (j := 41) rfl
theorem r91_61 : rowAt 91 61 = some (61, 64, .iinc 2 (-1), 2, 0, 0, (-1), 0) := ch91_0 (j := 42) rfl
theorem r91_64 : rowAt 91 64 = some (ra 64 67 (.goto (-61)) 3 0 0) := ch91_0 (j := 43) rfl
theorem r91_67 : rowAt 91 67 = some (r0 67 68 (.iconst 0)) := ch91_0 (j := 44) rfl
theorem r91_68 : rowAt 91 68 = some (r0 68 69 (.ireturn)) := ch91_0 (j := 45) rfl
theorem b91_0 {d : Nat} {q : Rs} {x0 : Nat} {x1 : Int32} {σ : St} 
    (k : Er (d + 1) 91 (3, [some (.ref x0), some (.int x1), some (.int (63 : Int32)), none], [], σ) q) :
    Er (d + 1) 91 (0, [some (.ref x0), some (.int x1), none, none], [], σ) q := Er.sT (c2 := (2, [some (.ref x0), some (.int x1), none, none], [.int (63 : Int32)], σ)) r91_0 rfl rfl <| Er.sT (c2 := (3, [some (.ref x0), some (.int x1), some (.int (63 : Int32)), none], [], σ)) r91_2 rfl rfl <| k
theorem b91_3 {d : Nat} {q : Rs} {x0 : Nat} {x1 : Int32} {x2 : Int32} {σ : St} 
    (kt : x2 < (0 : Int32) → Er (d + 1) 91 (67, [some (.ref x0), some (.int x1), some (.int x2), none], [], σ) q)
    (kf : ¬ x2 < (0 : Int32) → Er (d + 1) 91 (7, [some (.ref x0), some (.int x1), some (.int x2), none], [], σ) q) :
    Er (d + 1) 91 (3, [some (.ref x0), some (.int x1), some (.int x2), none], [], σ) q := Er.sT (c2 := (4, [some (.ref x0), some (.int x1), some (.int x2), none], [.int x2], σ)) r91_3 rfl rfl <| Er.sT (c2 := (brn .lt x2 (0 : Int32) 67 7, [some (.ref x0), some (.int x1), some (.int x2), none], [], σ)) r91_4 rfl rfl <| (br_lt kt kf)
theorem b91_7 {d : Nat} {q : Rs} {x0 : Nat} {x1 : Int32} {x2 : Int32} {σ : St} (h1 : x0 < 24 ∧ kls x0 = 5) (h2 : isL (fr x0 4) ∧ vp_in (((64 : Int32) * x1) + x2) (ale (fr x0 4)))
    (kt : (gal σ (fr x0 4) (((64 : Int32) * x1) + x2).toNatClampNeg) = (0 : Int64) → Er (d + 1) 91 (61, [some (.ref x0), some (.int x1), some (.int x2), none], [], σ) q)
    (kf : ¬ (gal σ (fr x0 4) (((64 : Int32) * x1) + x2).toNatClampNeg) = (0 : Int64) → Er (d + 1) 91 (23, [some (.ref x0), some (.int x1), some (.int x2), none], [], σ) q) :
    Er (d + 1) 91 (7, [some (.ref x0), some (.int x1), some (.int x2), none], [], σ) q := Er.sT (c2 := (8, [some (.ref x0), some (.int x1), some (.int x2), none], [.ref x0], σ)) r91_7 rfl rfl <| Er.st (P := (x0 < 24 ∧ kls x0 = 5)) (c2 := (11, [some (.ref x0), some (.int x1), some (.int x2), none], [.ref (fr x0 4)], σ)) r91_8 rfl rfl h1 <| Er.sT (c2 := (13, [some (.ref x0), some (.int x1), some (.int x2), none], [.int (64 : Int32), .ref (fr x0 4)], σ)) r91_11 rfl rfl <| Er.sT (c2 := (14, [some (.ref x0), some (.int x1), some (.int x2), none], [.int x1, .int (64 : Int32), .ref (fr x0 4)], σ)) r91_13 rfl rfl <| Er.sT (c2 := (15, [some (.ref x0), some (.int x1), some (.int x2), none], [.int ((64 : Int32) * x1), .ref (fr x0 4)], σ)) r91_14 rfl rfl <| Er.sT (c2 := (16, [some (.ref x0), some (.int x1), some (.int x2), none], [.int x2, .int ((64 : Int32) * x1), .ref (fr x0 4)], σ)) r91_15 rfl rfl <| Er.sT (c2 := (17, [some (.ref x0), some (.int x1), some (.int x2), none], [.int (((64 : Int32) * x1) + x2), .ref (fr x0 4)], σ)) r91_16 rfl rfl <| Er.st (P := (isL (fr x0 4) ∧ vp_in (((64 : Int32) * x1) + x2) (ale (fr x0 4)))) (c2 := (18, [some (.ref x0), some (.int x1), some (.int x2), none], [.long (gal σ (fr x0 4) (((64 : Int32) * x1) + x2).toNatClampNeg)], σ)) r91_17 rfl rfl h2 <| Er.sT (c2 := (19, [some (.ref x0), some (.int x1), some (.int x2), none], [.long (0 : Int64), .long (gal σ (fr x0 4) (((64 : Int32) * x1) + x2).toNatClampNeg)], σ)) r91_18 rfl rfl <| Er.sT (c2 := (20, [some (.ref x0), some (.int x1), some (.int x2), none], [.int (lg_cmp (gal σ (fr x0 4) (((64 : Int32) * x1) + x2).toNatClampNeg) (0 : Int64))], σ)) r91_19 rfl rfl <| Er.sT (c2 := (brn .eq (lg_cmp (gal σ (fr x0 4) (((64 : Int32) * x1) + x2).toNatClampNeg) (0 : Int64)) (0 : Int32) 61 23, [some (.ref x0), some (.int x1), some (.int x2), none], [], σ)) r91_20 rfl rfl <| (bl_eq kt kf)
theorem b91_23 {d : Nat} {q : Rs} {x0 : Nat} {x1 : Int32} {x2 : Int32} {σ : St} 
    (k : Er (d + 1) 91 (26, [some (.ref x0), some (.int x1), some (.int x2), some (.int (32 : Int32))], [], σ) q) :
    Er (d + 1) 91 (23, [some (.ref x0), some (.int x1), some (.int x2), none], [], σ) q := Er.sT (c2 := (25, [some (.ref x0), some (.int x1), some (.int x2), none], [.int (32 : Int32)], σ)) r91_23 rfl rfl <| Er.sT (c2 := (26, [some (.ref x0), some (.int x1), some (.int x2), some (.int (32 : Int32))], [], σ)) r91_25 rfl rfl <| k
theorem b91_26 {d : Nat} {q : Rs} {x0 : Nat} {x1 : Int32} {x2 : Int32} {x3 : Int32} {σ : St} (h1 : x0 < 24 ∧ kls x0 = 5) (h2 : isL (fr x0 4) ∧ vp_in (((64 : Int32) * x1) + x2) (ale (fr x0 4)))
    (kt : ¬ (((gal σ (fr x0 4) (((64 : Int32) * x1) + x2).toNatClampNeg) >>> ((x3 - (1 : Int32)).toInt64 &&& 63)) &&& (1 : Int64)) = (0 : Int64) → Er (d + 1) 91 (54, [some (.ref x0), some (.int x1), some (.int x2), some (.int x3)], [], σ) q)
    (kf : (((gal σ (fr x0 4) (((64 : Int32) * x1) + x2).toNatClampNeg) >>> ((x3 - (1 : Int32)).toInt64 &&& 63)) &&& (1 : Int64)) = (0 : Int64) → Er (d + 1) 91 (48, [some (.ref x0), some (.int x1), some (.int x2), some (.int x3)], [], σ) q) :
    Er (d + 1) 91 (26, [some (.ref x0), some (.int x1), some (.int x2), some (.int x3)], [], σ) q := Er.sT (c2 := (27, [some (.ref x0), some (.int x1), some (.int x2), some (.int x3)], [.ref x0], σ)) r91_26 rfl rfl <| Er.st (P := (x0 < 24 ∧ kls x0 = 5)) (c2 := (30, [some (.ref x0), some (.int x1), some (.int x2), some (.int x3)], [.ref (fr x0 4)], σ)) r91_27 rfl rfl h1 <| Er.sT (c2 := (32, [some (.ref x0), some (.int x1), some (.int x2), some (.int x3)], [.int (64 : Int32), .ref (fr x0 4)], σ)) r91_30 rfl rfl <| Er.sT (c2 := (33, [some (.ref x0), some (.int x1), some (.int x2), some (.int x3)], [.int x1, .int (64 : Int32), .ref (fr x0 4)], σ)) r91_32 rfl rfl <| Er.sT (c2 := (34, [some (.ref x0), some (.int x1), some (.int x2), some (.int x3)], [.int ((64 : Int32) * x1), .ref (fr x0 4)], σ)) r91_33 rfl rfl <| Er.sT (c2 := (35, [some (.ref x0), some (.int x1), some (.int x2), some (.int x3)], [.int x2, .int ((64 : Int32) * x1), .ref (fr x0 4)], σ)) r91_34 rfl rfl <| Er.sT (c2 := (36, [some (.ref x0), some (.int x1), some (.int x2), some (.int x3)], [.int (((64 : Int32) * x1) + x2), .ref (fr x0 4)], σ)) r91_35 rfl rfl <| Er.st (P := (isL (fr x0 4) ∧ vp_in (((64 : Int32) * x1) + x2) (ale (fr x0 4)))) (c2 := (37, [some (.ref x0), some (.int x1), some (.int x2), some (.int x3)], [.long (gal σ (fr x0 4) (((64 : Int32) * x1) + x2).toNatClampNeg)], σ)) r91_36 rfl rfl h2 <| Er.sT (c2 := (38, [some (.ref x0), some (.int x1), some (.int x2), some (.int x3)], [.int x3, .long (gal σ (fr x0 4) (((64 : Int32) * x1) + x2).toNatClampNeg)], σ)) r91_37 rfl rfl <| Er.sT (c2 := (39, [some (.ref x0), some (.int x1), some (.int x2), some (.int x3)], [.int (1 : Int32), .int x3, .long (gal σ (fr x0 4) (((64 : Int32) * x1) + x2).toNatClampNeg)], σ)) r91_38 rfl rfl <| Er.sT (c2 := (40, [some (.ref x0), some (.int x1), some (.int x2), some (.int x3)], [.int (x3 - (1 : Int32)), .long (gal σ (fr x0 4) (((64 : Int32) * x1) + x2).toNatClampNeg)], σ)) r91_39 rfl rfl <| Er.sT (c2 := (41, [some (.ref x0), some (.int x1), some (.int x2), some (.int x3)], [.long ((gal σ (fr x0 4) (((64 : Int32) * x1) + x2).toNatClampNeg) >>> ((x3 - (1 : Int32)).toInt64 &&& 63))], σ)) r91_40 rfl rfl <| Er.sT (c2 := (42, [some (.ref x0), some (.int x1), some (.int x2), some (.int x3)], [.long (1 : Int64), .long ((gal σ (fr x0 4) (((64 : Int32) * x1) + x2).toNatClampNeg) >>> ((x3 - (1 : Int32)).toInt64 &&& 63))], σ)) r91_41 rfl rfl <| Er.sT (c2 := (43, [some (.ref x0), some (.int x1), some (.int x2), some (.int x3)], [.long (((gal σ (fr x0 4) (((64 : Int32) * x1) + x2).toNatClampNeg) >>> ((x3 - (1 : Int32)).toInt64 &&& 63)) &&& (1 : Int64))], σ)) r91_42 rfl rfl <| Er.sT (c2 := (44, [some (.ref x0), some (.int x1), some (.int x2), some (.int x3)], [.long (0 : Int64), .long (((gal σ (fr x0 4) (((64 : Int32) * x1) + x2).toNatClampNeg) >>> ((x3 - (1 : Int32)).toInt64 &&& 63)) &&& (1 : Int64))], σ)) r91_43 rfl rfl <| Er.sT (c2 := (45, [some (.ref x0), some (.int x1), some (.int x2), some (.int x3)], [.int (lg_cmp (((gal σ (fr x0 4) (((64 : Int32) * x1) + x2).toNatClampNeg) >>> ((x3 - (1 : Int32)).toInt64 &&& 63)) &&& (1 : Int64)) (0 : Int64))], σ)) r91_44 rfl rfl <| Er.sT (c2 := (brn .ne (lg_cmp (((gal σ (fr x0 4) (((64 : Int32) * x1) + x2).toNatClampNeg) >>> ((x3 - (1 : Int32)).toInt64 &&& 63)) &&& (1 : Int64)) (0 : Int64)) (0 : Int32) 54 48, [some (.ref x0), some (.int x1), some (.int x2), some (.int x3)], [], σ)) r91_45 rfl rfl <| (bl_ne kt kf)
theorem b91_48 {d : Nat} {q : Rs} {x0 : Nat} {x1 : Int32} {x2 : Int32} {x3 : Int32} {σ : St} 
    (k : Er (d + 1) 91 (26, [some (.ref x0), some (.int x1), some (.int x2), some (.int (x3 + (-1 : Int32)))], [], σ) q) :
    Er (d + 1) 91 (48, [some (.ref x0), some (.int x1), some (.int x2), some (.int x3)], [], σ) q := Er.sT (c2 := (51, [some (.ref x0), some (.int x1), some (.int x2), some (.int (x3 + (-1 : Int32)))], [], σ)) r91_48 rfl rfl <| Er.sT (c2 := (26, [some (.ref x0), some (.int x1), some (.int x2), some (.int (x3 + (-1 : Int32)))], [], σ)) r91_51 rfl rfl <| k
theorem b91_54 {d : Nat} {x0 : Nat} {x1 : Int32} {x2 : Int32} {x3 : Int32} {σ : St}  :
    Er (d + 1) 91 (54, [some (.ref x0), some (.int x1), some (.int x2), some (.int x3)], [], σ) (.inl (some (.int (((32 : Int32) * x2) + x3))), σ, 0) := Er.sT (c2 := (56, [some (.ref x0), some (.int x1), some (.int x2), some (.int x3)], [.int (32 : Int32)], σ)) r91_54 rfl rfl <| Er.sT (c2 := (57, [some (.ref x0), some (.int x1), some (.int x2), some (.int x3)], [.int x2, .int (32 : Int32)], σ)) r91_56 rfl rfl <| Er.sT (c2 := (58, [some (.ref x0), some (.int x1), some (.int x2), some (.int x3)], [.int ((32 : Int32) * x2)], σ)) r91_57 rfl rfl <| Er.sT (c2 := (59, [some (.ref x0), some (.int x1), some (.int x2), some (.int x3)], [.int x3, .int ((32 : Int32) * x2)], σ)) r91_58 rfl rfl <| Er.sT (c2 := (60, [some (.ref x0), some (.int x1), some (.int x2), some (.int x3)], [.int (((32 : Int32) * x2) + x3)], σ)) r91_59 rfl rfl <| (Er.ret r91_60 rfl ⟨_, _, rfl, rfl, rfl, rfl⟩)
theorem b91_61 {d : Nat} {q : Rs} {x0 : Nat} {x1 : Int32} {x2 : Int32} {σ : St} 
    (k : Er (d + 1) 91 (3, [some (.ref x0), some (.int x1), some (.int (x2 + (-1 : Int32))), none], [], σ) q) :
    Er (d + 1) 91 (61, [some (.ref x0), some (.int x1), some (.int x2), none], [], σ) q := Er.sT (c2 := (64, [some (.ref x0), some (.int x1), some (.int (x2 + (-1 : Int32))), none], [], σ)) r91_61 rfl rfl <| Er.sT (c2 := (3, [some (.ref x0), some (.int x1), some (.int (x2 + (-1 : Int32))), none], [], σ)) r91_64 rfl rfl <| k
theorem b91_67 {d : Nat} {x0 : Nat} {x1 : Int32} {x2 : Int32} {σ : St}  :
    Er (d + 1) 91 (67, [some (.ref x0), some (.int x1), some (.int x2), none], [], σ) (.inl (some (.int (0 : Int32))), σ, 0) := Er.sT (c2 := (68, [some (.ref x0), some (.int x1), some (.int x2), none], [.int (0 : Int32)], σ)) r91_67 rfl rfl <| (Er.ret r91_68 rfl ⟨_, _, rfl, rfl, rfl, rfl⟩)
/-! NumberModelsModel.bit(II)J -/
theorem tab_92 : tab 92 = tb92_0 := rfl
theorem ch92_0 {j : Nat} {r : Row} (h : tb92_0[j]? = some r) : rowAt 92 r.1 = some r := row_mem 92 (by decide) (by rw [tab_92]; exact List.mem_of_getElem? h)
theorem r92_0 : rowAt 92 0 = some (r0 0 1 (.aload_n 0)) := ch92_0 (j := 0) rfl
theorem r92_1 : rowAt 92 1 = some (ra 1 4 (.getfield 17) 4 5 877) := ch92_0 (j := 1) rfl
theorem r92_4 : rowAt 92 4 = some (4, 6, .bipush 64, 0, 0, 0, 64, 0) := ch92_0 (j := 2) rfl
theorem r92_6 : rowAt 92 6 = some (ra 6 7 (.iload_n 1) 1 0 0) := ch92_0 (j := 3) rfl
theorem r92_7 : rowAt 92 7 = some (r0 7 8 (.imul)) := ch92_0 (j := 4) rfl
theorem r92_8 : rowAt 92 8 = some (ra 8 9 (.iload_n 2) 2 0 0) := ch92_0 (j := 5) rfl
theorem r92_9 : rowAt 92 9 = some (9, 11, .bipush 32, 0, 0, 0, 32, 0) := ch92_0 (j := 6) rfl
theorem r92_11 : rowAt 92 11 = some (r0 11 12 (.idiv)) := ch92_0 (j := 7) rfl
theorem r92_12 : rowAt 92 12 = some (r0 12 13 (.iadd)) := ch92_0 (j := 8) rfl
theorem r92_13 : rowAt 92 13 = some (r0 13 14 (.laload)) := ch92_0 (j := 9) rfl
theorem r92_14 : rowAt 92 14 = some (ra 14 15 (.iload_n 2) 2 0 0) := ch92_0 (j := 10) rfl
theorem r92_15 : rowAt 92 15 = some (15, 17, .bipush 32, 0, 0, 0, 32, 0) := ch92_0 (j := 11) rfl
theorem r92_17 : rowAt 92 17 = some (r0 17 18 (.irem)) := ch92_0 (j := 12) rfl
theorem r92_18 : rowAt 92 18 = some (r0 18 19 (.lshr)) := ch92_0 (j := 13) rfl
theorem r92_19 : rowAt 92 19 = some (19, 20, .lconst 1, 0, 0, 0, 0, 1) := ch92_0 (j := 14) rfl
theorem r92_20 : rowAt 92 20 = some (r0 20 21 (.land)) := ch92_0 (j := 15) rfl
theorem r92_21 : rowAt 92 21 = some (r0 21 22 (.lreturn)) := ch92_0 (j := 16) rfl
theorem b92_0 {d : Nat} {x0 : Nat} {x1 : Int32} {x2 : Int32} {σ : St} (h1 : x0 < 24 ∧ kls x0 = 5) (h2 : ¬ (32 : Int32) = 0) (h3 : isL (fr x0 4) ∧ vp_in (((64 : Int32) * x1) + (x2 / (32 : Int32))) (ale (fr x0 4))) :
    Er (d + 1) 92 (0, [some (.ref x0), some (.int x1), some (.int x2)], [], σ) (.inl (some (.long (((gal σ (fr x0 4) (((64 : Int32) * x1) + (x2 / (32 : Int32))).toNatClampNeg) >>> ((x2 - x2 / (32 : Int32) * (32 : Int32)).toInt64 &&& 63)) &&& (1 : Int64)))), σ, 0) := Er.sT (c2 := (1, [some (.ref x0), some (.int x1), some (.int x2)], [.ref x0], σ)) r92_0 rfl rfl <| Er.st (P := (x0 < 24 ∧ kls x0 = 5)) (c2 := (4, [some (.ref x0), some (.int x1), some (.int x2)], [.ref (fr x0 4)], σ)) r92_1 rfl rfl h1 <| Er.sT (c2 := (6, [some (.ref x0), some (.int x1), some (.int x2)], [.int (64 : Int32), .ref (fr x0 4)], σ)) r92_4 rfl rfl <| Er.sT (c2 := (7, [some (.ref x0), some (.int x1), some (.int x2)], [.int x1, .int (64 : Int32), .ref (fr x0 4)], σ)) r92_6 rfl rfl <| Er.sT (c2 := (8, [some (.ref x0), some (.int x1), some (.int x2)], [.int ((64 : Int32) * x1), .ref (fr x0 4)], σ)) r92_7 rfl rfl <| Er.sT (c2 := (9, [some (.ref x0), some (.int x1), some (.int x2)], [.int x2, .int ((64 : Int32) * x1), .ref (fr x0 4)], σ)) r92_8 rfl rfl <| Er.sT (c2 := (11, [some (.ref x0), some (.int x1), some (.int x2)], [.int (32 : Int32), .int x2, .int ((64 : Int32) * x1), .ref (fr x0 4)], σ)) r92_9 rfl rfl <| Er.st (P := (¬ (32 : Int32) = 0)) (c2 := (12, [some (.ref x0), some (.int x1), some (.int x2)], [.int (x2 / (32 : Int32)), .int ((64 : Int32) * x1), .ref (fr x0 4)], σ)) r92_11 rfl rfl h2 <| Er.sT (c2 := (13, [some (.ref x0), some (.int x1), some (.int x2)], [.int (((64 : Int32) * x1) + (x2 / (32 : Int32))), .ref (fr x0 4)], σ)) r92_12 rfl rfl <| Er.st (P := (isL (fr x0 4) ∧ vp_in (((64 : Int32) * x1) + (x2 / (32 : Int32))) (ale (fr x0 4)))) (c2 := (14, [some (.ref x0), some (.int x1), some (.int x2)], [.long (gal σ (fr x0 4) (((64 : Int32) * x1) + (x2 / (32 : Int32))).toNatClampNeg)], σ)) r92_13 rfl rfl h3 <| Er.sT (c2 := (15, [some (.ref x0), some (.int x1), some (.int x2)], [.int x2, .long (gal σ (fr x0 4) (((64 : Int32) * x1) + (x2 / (32 : Int32))).toNatClampNeg)], σ)) r92_14 rfl rfl <| Er.sT (c2 := (17, [some (.ref x0), some (.int x1), some (.int x2)], [.int (32 : Int32), .int x2, .long (gal σ (fr x0 4) (((64 : Int32) * x1) + (x2 / (32 : Int32))).toNatClampNeg)], σ)) r92_15 rfl rfl <| Er.st (P := (¬ (32 : Int32) = 0)) (c2 := (18, [some (.ref x0), some (.int x1), some (.int x2)], [.int (x2 - x2 / (32 : Int32) * (32 : Int32)), .long (gal σ (fr x0 4) (((64 : Int32) * x1) + (x2 / (32 : Int32))).toNatClampNeg)], σ)) r92_17 rfl rfl h2 <| Er.sT (c2 := (19, [some (.ref x0), some (.int x1), some (.int x2)], [.long ((gal σ (fr x0 4) (((64 : Int32) * x1) + (x2 / (32 : Int32))).toNatClampNeg) >>> ((x2 - x2 / (32 : Int32) * (32 : Int32)).toInt64 &&& 63))], σ)) r92_18 rfl rfl <| Er.sT (c2 := (20, [some (.ref x0), some (.int x1), some (.int x2)], [.long (1 : Int64), .long ((gal σ (fr x0 4) (((64 : Int32) * x1) + (x2 / (32 : Int32))).toNatClampNeg) >>> ((x2 - x2 / (32 : Int32) * (32 : Int32)).toInt64 &&& 63))], σ)) r92_19 rfl rfl <| Er.sT (c2 := (21, [some (.ref x0), some (.int x1), some (.int x2)], [.long (((gal σ (fr x0 4) (((64 : Int32) * x1) + (x2 / (32 : Int32))).toNatClampNeg) >>> ((x2 - x2 / (32 : Int32) * (32 : Int32)).toInt64 &&& 63)) &&& (1 : Int64))], σ)) r92_20 rfl rfl <| (Er.ret r92_21 rfl ⟨_, rfl, rfl, rfl⟩)
/-! NumberModelsModel.fails(I)I -/
theorem tab_93 : tab 93 = tb93_0 := rfl
theorem ch93_0 {j : Nat} {r : Row} (h : tb93_0[j]? = some r) : rowAt 93 r.1 = some r := row_mem 93 (by decide) (by rw [tab_93]; exact List.mem_of_getElem? h)
theorem r93_0 : rowAt 93 0 = some (r0 0 1 (.aload_n 0)) := ch93_0 (j := 0) rfl
theorem r93_1 : rowAt 93 1 = some (ra 1 2 (.iload_n 1) 1 0 0) := ch93_0 (j := 1) rfl
theorem r93_2 : rowAt 93 2 = some (ra 2 5 (.putfield 20) 0 5 873) := ch93_0 (j := 2) rfl
theorem r93_5 : rowAt 93 5 = some (r0 5 6 (.iconst 0)) := ch93_0 (j := 3) rfl
theorem r93_6 : rowAt 93 6 = some (r0 6 7 (.ireturn)) := ch93_0 (j := 4) rfl
theorem b93_0 {d : Nat} {x0 : Nat} {x1 : Int32} {σ : St} (h1 : x0 < 24 ∧ kls x0 = 5 ∧ ft 5 0 = 0) :
    Er (d + 1) 93 (0, [some (.ref x0), some (.int x1)], [], σ) (.inl (some (.int (0 : Int32))), (sfi σ x0 0 x1), 0) := Er.sT (c2 := (1, [some (.ref x0), some (.int x1)], [.ref x0], σ)) r93_0 rfl rfl <| Er.sT (c2 := (2, [some (.ref x0), some (.int x1)], [.int x1, .ref x0], σ)) r93_1 rfl rfl <| Er.st (P := (x0 < 24 ∧ kls x0 = 5 ∧ ft 5 0 = 0)) (c2 := (5, [some (.ref x0), some (.int x1)], [], (sfi σ x0 0 x1))) r93_2 rfl rfl h1 <| Er.sT (c2 := (6, [some (.ref x0), some (.int x1)], [.int (0 : Int32)], (sfi σ x0 0 x1))) r93_5 rfl rfl <| (Er.ret r93_6 rfl ⟨_, _, rfl, rfl, rfl, rfl⟩)
/-! NumberModelsModel.fraction(JJ)I -/
theorem tab_94 : tab 94 = tb94_0 := rfl
theorem ch94_0 {j : Nat} {r : Row} (h : tb94_0[j]? = some r) : rowAt 94 r.1 = some r := row_mem 94 (by decide) (by rw [tab_94]; exact List.mem_of_getElem? h)
theorem r94_0 : rowAt 94 0 = some (ra 0 1 (.lload_n 3) 3 0 0) := ch94_0 (j := 0) rfl
theorem r94_1 : rowAt 94 1 = some (r0 1 2 (.lconst 0)) := ch94_0 (j := 1) rfl
theorem r94_2 : rowAt 94 2 = some (r0 2 3 (.lcmp)) := ch94_0 (j := 2) rfl
theorem r94_3 : rowAt 94 3 = some (ra 3 6 (.ifCond .ne 9) 12 0 0) := ch94_0 (j := 3) rfl
theorem r94_6 : rowAt 94 6 = some (r0 6 7 (.aload_n 0)) := ch94_0 (j := 4) rfl
theorem r94_7 : rowAt 94 7 = some (7, 8, .iconst 1, 0, 0, 0, 1, 0) := ch94_0 (j := 5) rfl
theorem r94_8 : rowAt 94 8 = some (ra 8 11 (.invokevirtual 79) 93 2 976) := ch94_0 (j := 6) rfl
theorem r94_11 : rowAt 94 11 = some (r0 11 12 (.ireturn)) := ch94_0 (j := 7) rfl
theorem r94_12 : rowAt 94 12 = some (r0 12 13 (.aload_n 0)) := ch94_0 (j := 8) rfl
theorem r94_13 : rowAt 94 13 = some (r0 13 14 (.iconst 0)) := ch94_0 (j := 9) rfl
theorem r94_14 : rowAt 94 14 = some (ra 14 15 (.lload_n 1) 1 0 0) := ch94_0 (j := 10) rfl
theorem r94_15 : rowAt 94 15 = some (ra 15 18 (.invokestatic 82) 77 1 912) := ch94_0 (j := 11) rfl
theorem r94_18 : rowAt 94 18 = some (ra 18 21 (.invokevirtual 68) 78 3 915) := ch94_0 (j := 12) rfl
theorem r94_21 : rowAt 94 21 = some (r0 21 22 (.aload_n 0)) := ch94_0 (j := 13) rfl
theorem r94_22 : rowAt 94 22 = some (22, 23, .iconst 1, 0, 0, 0, 1, 0) := ch94_0 (j := 14) rfl
theorem r94_23 : rowAt 94 23 = some (ra 23 24 (.lload_n 3) 3 0 0) := ch94_0 (j := 15) rfl
theorem r94_24 : rowAt 94 24 = some (ra 24 27 (.invokestatic 82) 77 1 912) := ch94_0 (j := 16) rfl
theorem r94_27 : rowAt 94 27 = some (ra 27 30 (.invokevirtual 68) 78 3 915) := ch94_0 (j := 17) rfl
theorem r94_30 : rowAt 94 30 = some (r0 30 31 (.aload_n 0)) := ch94_0 (j := 18) rfl
theorem r94_31 : rowAt 94 31 = some (ra 31 32 (.lload_n 1) 1 0 0) := ch94_0 (j := 19) rfl
theorem r94_32 : rowAt 94 32 = some (r0 32 33 (.lconst 0)) := ch94_0 (j := 20) rfl
theorem r94_33 : rowAt 94 33 = some (r0 33 34 (.lcmp)) := ch94_0 (j := 21) rfl
theorem r94_34 : rowAt 94 34 = some (ra 34 37 (.ifCond .ge 7) 41 0 0) := ch94_0 (j := 22) rfl
theorem r94_37 : rowAt 94 37 = some (37, 38, .iconst 1, 0, 0, 0, 1, 0) := ch94_0 (j := 23) rfl
theorem r94_38 : rowAt 94 38 = some (ra 38 41 (.goto 4) 42 0 0) := ch94_0 (j := 24) rfl
theorem r94_41 : rowAt 94 41 = some (r0 41 42 (.iconst 0)) := ch94_0 (j := 25) rfl
theorem r94_42 : rowAt 94 42 = some (ra 42 43 (.lload_n 3) 3 0 0) := ch94_0 (j := 26) rfl
theorem r94_43 : rowAt 94 43 = some (r0 43 44 (.lconst 0)) := ch94_0 (j := 27) rfl
theorem r94_44 : rowAt 94 44 = some (r0 44 45 (.lcmp)) := ch94_0 (j := 28) rfl
theorem r94_45 : rowAt 94 45 = some (ra 45 48 (.ifCond .ge 7) 52 0 0) := ch94_0 (j := 29) rfl
theorem r94_48 : rowAt 94 48 = some (48, 49, .iconst 1, 0, 0, 0, 1, 0) := ch94_0 (j := 30) rfl
theorem r94_49 : rowAt 94 49 = some (ra 49 52 (.goto 4) 53 0 0) := ch94_0 (j := 31) rfl
theorem r94_52 : rowAt 94 52 = some (r0 52 53 (.iconst 0)) := ch94_0 (j := 32) rfl
theorem r94_53 : rowAt 94 53 = some (ra 53 56 (.if_icmp .eq 7) 60 0 0) := ch94_0 (j := 33) rfl
theorem r94_56 : rowAt 94 56 = some (56, 57, .iconst (-1), 0, 0, 0, (-1), 0) := ch94_0 (j := 34) rfl
theorem r94_57 : rowAt 94 57 = some (ra 57 60 (.goto 4) 61 0 0) := ch94_0 (j := 35) rfl
theorem r94_60 : rowAt 94 60 = some (60, 61, .iconst 1, 0, 0, 0, 1, 0) := ch94_0 (j := 36) rfl
theorem r94_61 : rowAt 94 61 = some (61, 62, .iconst 2, 0, 0, 0, 2, 0) := ch94_0 (j := 37) rfl
theorem r94_62 : rowAt 94 62 = some (ra 62 65 (.invokevirtual 86) 80 3 924) := ch94_0 (j := 38) rfl
theorem r94_65 : rowAt 94 65 = some (r0 65 66 (.ireturn)) := ch94_0 (j := 39) rfl
theorem b94_0 {d : Nat} {q : Rs} {x0 : Nat} {x1 : Int64} {x3 : Int64} {σ : St} 
    (kt : ¬ x3 = (0 : Int64) → Er (d + 1) 94 (12, [some (.ref x0), some (.long x1), none, some (.long x3), none], [], σ) q)
    (kf : x3 = (0 : Int64) → Er (d + 1) 94 (6, [some (.ref x0), some (.long x1), none, some (.long x3), none], [], σ) q) :
    Er (d + 1) 94 (0, [some (.ref x0), some (.long x1), none, some (.long x3), none], [], σ) q := Er.sT (c2 := (1, [some (.ref x0), some (.long x1), none, some (.long x3), none], [.long x3], σ)) r94_0 rfl rfl <| Er.sT (c2 := (2, [some (.ref x0), some (.long x1), none, some (.long x3), none], [.long (0 : Int64), .long x3], σ)) r94_1 rfl rfl <| Er.sT (c2 := (3, [some (.ref x0), some (.long x1), none, some (.long x3), none], [.int (lg_cmp x3 (0 : Int64))], σ)) r94_2 rfl rfl <| Er.sT (c2 := (brn .ne (lg_cmp x3 (0 : Int64)) (0 : Int32) 12 6, [some (.ref x0), some (.long x1), none, some (.long x3), none], [], σ)) r94_3 rfl rfl <| (bl_ne kt kf)
theorem b94_6 {d : Nat} {q : Rs} {x0 : Nat} {x1 : Int64} {x3 : Int64} {σ : St} {σ2 : St} {r : Int32} (h1 : x0 < 24 ∧ kls x0 = 5)
    (hy : Er d 93 (0, ent 93 [.ref x0, .int (1 : Int32)], [], σ) (.inl (some (.int r)), σ2, 0))
    (k : Er (d + 1) 94 (11, [some (.ref x0), some (.long x1), none, some (.long x3), none], [.int r], σ2) q) :
    Er (d + 1) 94 (6, [some (.ref x0), some (.long x1), none, some (.long x3), none], [], σ) q := Er.sT (c2 := (7, [some (.ref x0), some (.long x1), none, some (.long x3), none], [.ref x0], σ)) r94_6 rfl rfl <| Er.sT (c2 := (8, [some (.ref x0), some (.long x1), none, some (.long x3), none], [.int (1 : Int32), .ref x0], σ)) r94_7 rfl rfl <| (Er.call (vs := [.ref x0, .int (1 : Int32)]) (rest := []) r94_8 rfl rfl (Nat.le_of_ble_eq_true rfl) (Nat.le_of_ble_eq_true rfl) (fun _ => ⟨_, _, rfl, h1⟩) hy k)
theorem b94_11 {d : Nat} {x0 : Nat} {x1 : Int64} {x3 : Int64} {s0 : Int32} {σ : St}  :
    Er (d + 1) 94 (11, [some (.ref x0), some (.long x1), none, some (.long x3), none], [.int s0], σ) (.inl (some (.int s0)), σ, 0) := (Er.ret r94_11 rfl ⟨_, _, rfl, rfl, rfl, rfl⟩)
theorem b94_12 {d : Nat} {q : Rs} {x0 : Nat} {x1 : Int64} {x3 : Int64} {σ : St} {σ2 : St} {r : Int64} 
    (hy : Er d 77 (0, ent 77 [.long x1], [], σ) (.inl (some (.long r)), σ2, 0))
    (k : Er (d + 1) 94 (18, [some (.ref x0), some (.long x1), none, some (.long x3), none], [.long r, .int (0 : Int32), .ref x0], σ2) q) :
    Er (d + 1) 94 (12, [some (.ref x0), some (.long x1), none, some (.long x3), none], [], σ) q := Er.sT (c2 := (13, [some (.ref x0), some (.long x1), none, some (.long x3), none], [.ref x0], σ)) r94_12 rfl rfl <| Er.sT (c2 := (14, [some (.ref x0), some (.long x1), none, some (.long x3), none], [.int (0 : Int32), .ref x0], σ)) r94_13 rfl rfl <| Er.sT (c2 := (15, [some (.ref x0), some (.long x1), none, some (.long x3), none], [.long x1, .int (0 : Int32), .ref x0], σ)) r94_14 rfl rfl <| (Er.call (vs := [.long x1]) (rest := [.int (0 : Int32), .ref x0]) r94_15 rfl rfl (Nat.le_of_ble_eq_true rfl) (Nat.le_of_ble_eq_true rfl) (fun h => absurd h (by decide +kernel)) hy k)
theorem b94_18 {d : Nat} {q : Rs} {x0 : Nat} {x1 : Int64} {x3 : Int64} {s0 : Nat} {s1 : Int32} {s2 : Int64} {σ : St} {σ2 : St}  (h1 : s0 < 24 ∧ kls s0 = 5)
    (hy : Er d 78 (0, ent 78 [.ref s0, .int s1, .long s2], [], σ) (.inl none, σ2, 0))
    (k : Er (d + 1) 94 (21, [some (.ref x0), some (.long x1), none, some (.long x3), none], [], σ2) q) :
    Er (d + 1) 94 (18, [some (.ref x0), some (.long x1), none, some (.long x3), none], [.long s2, .int s1, .ref s0], σ) q := (Er.call (vs := [.ref s0, .int s1, .long s2]) (rest := []) r94_18 rfl rfl (Nat.le_of_ble_eq_true rfl) (Nat.le_of_ble_eq_true rfl) (fun _ => ⟨_, _, rfl, h1⟩) hy k)
theorem b94_21 {d : Nat} {q : Rs} {x0 : Nat} {x1 : Int64} {x3 : Int64} {σ : St} {σ2 : St} {r : Int64} 
    (hy : Er d 77 (0, ent 77 [.long x3], [], σ) (.inl (some (.long r)), σ2, 0))
    (k : Er (d + 1) 94 (27, [some (.ref x0), some (.long x1), none, some (.long x3), none], [.long r, .int (1 : Int32), .ref x0], σ2) q) :
    Er (d + 1) 94 (21, [some (.ref x0), some (.long x1), none, some (.long x3), none], [], σ) q := Er.sT (c2 := (22, [some (.ref x0), some (.long x1), none, some (.long x3), none], [.ref x0], σ)) r94_21 rfl rfl <| Er.sT (c2 := (23, [some (.ref x0), some (.long x1), none, some (.long x3), none], [.int (1 : Int32), .ref x0], σ)) r94_22 rfl rfl <| Er.sT (c2 := (24, [some (.ref x0), some (.long x1), none, some (.long x3), none], [.long x3, .int (1 : Int32), .ref x0], σ)) r94_23 rfl rfl <| (Er.call (vs := [.long x3]) (rest := [.int (1 : Int32), .ref x0]) r94_24 rfl rfl (Nat.le_of_ble_eq_true rfl) (Nat.le_of_ble_eq_true rfl) (fun h => absurd h (by decide +kernel)) hy k)
theorem b94_27 {d : Nat} {q : Rs} {x0 : Nat} {x1 : Int64} {x3 : Int64} {s0 : Nat} {s1 : Int32} {s2 : Int64} {σ : St} {σ2 : St}  (h1 : s0 < 24 ∧ kls s0 = 5)
    (hy : Er d 78 (0, ent 78 [.ref s0, .int s1, .long s2], [], σ) (.inl none, σ2, 0))
    (k : Er (d + 1) 94 (30, [some (.ref x0), some (.long x1), none, some (.long x3), none], [], σ2) q) :
    Er (d + 1) 94 (27, [some (.ref x0), some (.long x1), none, some (.long x3), none], [.long s2, .int s1, .ref s0], σ) q := (Er.call (vs := [.ref s0, .int s1, .long s2]) (rest := []) r94_27 rfl rfl (Nat.le_of_ble_eq_true rfl) (Nat.le_of_ble_eq_true rfl) (fun _ => ⟨_, _, rfl, h1⟩) hy k)
theorem b94_30 {d : Nat} {q : Rs} {x0 : Nat} {x1 : Int64} {x3 : Int64} {σ : St} 
    (kt : ¬ x1 < (0 : Int64) → Er (d + 1) 94 (41, [some (.ref x0), some (.long x1), none, some (.long x3), none], [.ref x0], σ) q)
    (kf : x1 < (0 : Int64) → Er (d + 1) 94 (37, [some (.ref x0), some (.long x1), none, some (.long x3), none], [.ref x0], σ) q) :
    Er (d + 1) 94 (30, [some (.ref x0), some (.long x1), none, some (.long x3), none], [], σ) q := Er.sT (c2 := (31, [some (.ref x0), some (.long x1), none, some (.long x3), none], [.ref x0], σ)) r94_30 rfl rfl <| Er.sT (c2 := (32, [some (.ref x0), some (.long x1), none, some (.long x3), none], [.long x1, .ref x0], σ)) r94_31 rfl rfl <| Er.sT (c2 := (33, [some (.ref x0), some (.long x1), none, some (.long x3), none], [.long (0 : Int64), .long x1, .ref x0], σ)) r94_32 rfl rfl <| Er.sT (c2 := (34, [some (.ref x0), some (.long x1), none, some (.long x3), none], [.int (lg_cmp x1 (0 : Int64)), .ref x0], σ)) r94_33 rfl rfl <| Er.sT (c2 := (brn .ge (lg_cmp x1 (0 : Int64)) (0 : Int32) 41 37, [some (.ref x0), some (.long x1), none, some (.long x3), none], [.ref x0], σ)) r94_34 rfl rfl <| (bl_ge kt kf)
theorem b94_37 {d : Nat} {q : Rs} {x0 : Nat} {x1 : Int64} {x3 : Int64} {s0 : Nat} {σ : St} 
    (k : Er (d + 1) 94 (42, [some (.ref x0), some (.long x1), none, some (.long x3), none], [.int (1 : Int32), .ref s0], σ) q) :
    Er (d + 1) 94 (37, [some (.ref x0), some (.long x1), none, some (.long x3), none], [.ref s0], σ) q := Er.sT (c2 := (38, [some (.ref x0), some (.long x1), none, some (.long x3), none], [.int (1 : Int32), .ref s0], σ)) r94_37 rfl rfl <| Er.sT (c2 := (42, [some (.ref x0), some (.long x1), none, some (.long x3), none], [.int (1 : Int32), .ref s0], σ)) r94_38 rfl rfl <| k
theorem b94_41 {d : Nat} {q : Rs} {x0 : Nat} {x1 : Int64} {x3 : Int64} {s0 : Nat} {σ : St} 
    (k : Er (d + 1) 94 (42, [some (.ref x0), some (.long x1), none, some (.long x3), none], [.int (0 : Int32), .ref s0], σ) q) :
    Er (d + 1) 94 (41, [some (.ref x0), some (.long x1), none, some (.long x3), none], [.ref s0], σ) q := Er.sT (c2 := (42, [some (.ref x0), some (.long x1), none, some (.long x3), none], [.int (0 : Int32), .ref s0], σ)) r94_41 rfl rfl <| k
theorem b94_42 {d : Nat} {q : Rs} {x0 : Nat} {x1 : Int64} {x3 : Int64} {s0 : Nat} {s1 : Int32} {σ : St} 
    (kt : ¬ x3 < (0 : Int64) → Er (d + 1) 94 (52, [some (.ref x0), some (.long x1), none, some (.long x3), none], [.int s1, .ref s0], σ) q)
    (kf : x3 < (0 : Int64) → Er (d + 1) 94 (48, [some (.ref x0), some (.long x1), none, some (.long x3), none], [.int s1, .ref s0], σ) q) :
    Er (d + 1) 94 (42, [some (.ref x0), some (.long x1), none, some (.long x3), none], [.int s1, .ref s0], σ) q := Er.sT (c2 := (43, [some (.ref x0), some (.long x1), none, some (.long x3), none], [.long x3, .int s1, .ref s0], σ)) r94_42 rfl rfl <| Er.sT (c2 := (44, [some (.ref x0), some (.long x1), none, some (.long x3), none], [.long (0 : Int64), .long x3, .int s1, .ref s0], σ)) r94_43 rfl rfl <| Er.sT (c2 := (45, [some (.ref x0), some (.long x1), none, some (.long x3), none], [.int (lg_cmp x3 (0 : Int64)), .int s1, .ref s0], σ)) r94_44 rfl rfl <| Er.sT (c2 := (brn .ge (lg_cmp x3 (0 : Int64)) (0 : Int32) 52 48, [some (.ref x0), some (.long x1), none, some (.long x3), none], [.int s1, .ref s0], σ)) r94_45 rfl rfl <| (bl_ge kt kf)
theorem b94_48 {d : Nat} {q : Rs} {x0 : Nat} {x1 : Int64} {x3 : Int64} {s0 : Nat} {s1 : Int32} {σ : St} 
    (k : Er (d + 1) 94 (53, [some (.ref x0), some (.long x1), none, some (.long x3), none], [.int (1 : Int32), .int s1, .ref s0], σ) q) :
    Er (d + 1) 94 (48, [some (.ref x0), some (.long x1), none, some (.long x3), none], [.int s1, .ref s0], σ) q := Er.sT (c2 := (49, [some (.ref x0), some (.long x1), none, some (.long x3), none], [.int (1 : Int32), .int s1, .ref s0], σ)) r94_48 rfl rfl <| Er.sT (c2 := (53, [some (.ref x0), some (.long x1), none, some (.long x3), none], [.int (1 : Int32), .int s1, .ref s0], σ)) r94_49 rfl rfl <| k
theorem b94_52 {d : Nat} {q : Rs} {x0 : Nat} {x1 : Int64} {x3 : Int64} {s0 : Nat} {s1 : Int32} {σ : St} 
    (k : Er (d + 1) 94 (53, [some (.ref x0), some (.long x1), none, some (.long x3), none], [.int (0 : Int32), .int s1, .ref s0], σ) q) :
    Er (d + 1) 94 (52, [some (.ref x0), some (.long x1), none, some (.long x3), none], [.int s1, .ref s0], σ) q := Er.sT (c2 := (53, [some (.ref x0), some (.long x1), none, some (.long x3), none], [.int (0 : Int32), .int s1, .ref s0], σ)) r94_52 rfl rfl <| k
theorem b94_53 {d : Nat} {q : Rs} {x0 : Nat} {x1 : Int64} {x3 : Int64} {s0 : Nat} {s1 : Int32} {s2 : Int32} {σ : St} 
    (kt : s1 = s2 → Er (d + 1) 94 (60, [some (.ref x0), some (.long x1), none, some (.long x3), none], [.ref s0], σ) q)
    (kf : ¬ s1 = s2 → Er (d + 1) 94 (56, [some (.ref x0), some (.long x1), none, some (.long x3), none], [.ref s0], σ) q) :
    Er (d + 1) 94 (53, [some (.ref x0), some (.long x1), none, some (.long x3), none], [.int s2, .int s1, .ref s0], σ) q := Er.sT (c2 := (brn .eq s1 s2 60 56, [some (.ref x0), some (.long x1), none, some (.long x3), none], [.ref s0], σ)) r94_53 rfl rfl <| (br_eq kt kf)
theorem b94_56 {d : Nat} {q : Rs} {x0 : Nat} {x1 : Int64} {x3 : Int64} {s0 : Nat} {σ : St} 
    (k : Er (d + 1) 94 (61, [some (.ref x0), some (.long x1), none, some (.long x3), none], [.int (-1 : Int32), .ref s0], σ) q) :
    Er (d + 1) 94 (56, [some (.ref x0), some (.long x1), none, some (.long x3), none], [.ref s0], σ) q := Er.sT (c2 := (57, [some (.ref x0), some (.long x1), none, some (.long x3), none], [.int (-1 : Int32), .ref s0], σ)) r94_56 rfl rfl <| Er.sT (c2 := (61, [some (.ref x0), some (.long x1), none, some (.long x3), none], [.int (-1 : Int32), .ref s0], σ)) r94_57 rfl rfl <| k
theorem b94_60 {d : Nat} {q : Rs} {x0 : Nat} {x1 : Int64} {x3 : Int64} {s0 : Nat} {σ : St} 
    (k : Er (d + 1) 94 (61, [some (.ref x0), some (.long x1), none, some (.long x3), none], [.int (1 : Int32), .ref s0], σ) q) :
    Er (d + 1) 94 (60, [some (.ref x0), some (.long x1), none, some (.long x3), none], [.ref s0], σ) q := Er.sT (c2 := (61, [some (.ref x0), some (.long x1), none, some (.long x3), none], [.int (1 : Int32), .ref s0], σ)) r94_60 rfl rfl <| k
theorem b94_61 {d : Nat} {q : Rs} {x0 : Nat} {x1 : Int64} {x3 : Int64} {s0 : Nat} {s1 : Int32} {σ : St} {σ2 : St} {r : Int32} (h1 : s0 < 24 ∧ kls s0 = 5)
    (hy : Er d 80 (0, ent 80 [.ref s0, .int s1, .int (2 : Int32)], [], σ) (.inl (some (.int r)), σ2, 0))
    (k : Er (d + 1) 94 (65, [some (.ref x0), some (.long x1), none, some (.long x3), none], [.int r], σ2) q) :
    Er (d + 1) 94 (61, [some (.ref x0), some (.long x1), none, some (.long x3), none], [.int s1, .ref s0], σ) q := Er.sT (c2 := (62, [some (.ref x0), some (.long x1), none, some (.long x3), none], [.int (2 : Int32), .int s1, .ref s0], σ)) r94_61 rfl rfl <| (Er.call (vs := [.ref s0, .int s1, .int (2 : Int32)]) (rest := []) r94_62 rfl rfl (Nat.le_of_ble_eq_true rfl) (Nat.le_of_ble_eq_true rfl) (fun _ => ⟨_, _, rfl, h1⟩) hy k)
theorem b94_65 {d : Nat} {x0 : Nat} {x1 : Int64} {x3 : Int64} {s0 : Int32} {σ : St}  :
    Er (d + 1) 94 (65, [some (.ref x0), some (.long x1), none, some (.long x3), none], [.int s0], σ) (.inl (some (.int s0)), σ, 0) := (Er.ret r94_65 rfl ⟨_, _, rfl, rfl, rfl, rfl⟩)
/-! NumberModelsModel.real(J)I -/
theorem tab_95 : tab 95 = tb95_0 := rfl
theorem ch95_0 {j : Nat} {r : Row} (h : tb95_0[j]? = some r) : rowAt 95 r.1 = some r := row_mem 95 (by decide) (by rw [tab_95]; exact List.mem_of_getElem? h)
theorem r95_0 : rowAt 95 0 = some (ra 0 1 (.lload_n 1) 1 0 0) := ch95_0 (j := 0) rfl
theorem r95_1 : rowAt 95 1 = some (ra 1 4 (.invokestatic 93) 96 1 988) := ch95_0 (j := 1) rfl
theorem r95_4 : rowAt 95 4 = some (4, 7, .sipush 2047, 0, 0, 0, 2047, 0) := ch95_0 (j := 2) rfl
theorem r95_7 : rowAt 95 7 = some (ra 7 10 (.if_icmp .ne 9) 16 0 0) := ch95_0 (j := 3) rfl
theorem r95_10 : rowAt 95 10 = some (r0 10 11 (.aload_n 0)) := ch95_0 (j := 4) rfl
theorem r95_11 : rowAt 95 11 = some (11, 12, .iconst 1, 0, 0, 0, 1, 0) := ch95_0 (j := 5) rfl
theorem r95_12 : rowAt 95 12 = some (ra 12 15 (.invokevirtual 79) 93 2 976) := ch95_0 (j := 6) rfl
theorem r95_15 : rowAt 95 15 = some (r0 15 16 (.ireturn)) := ch95_0 (j := 7) rfl
theorem r95_16 : rowAt 95 16 = some (r0 16 17 (.aload_n 0)) := ch95_0 (j := 8) rfl
theorem r95_17 : rowAt 95 17 = some (r0 17 18 (.iconst 0)) := ch95_0 (j := 9) rfl
theorem r95_18 : rowAt 95 18 = some (ra 18 19 (.lload_n 1) 1 0 0) := ch95_0 (j := 10) rfl
theorem r95_19 : rowAt 95 19 = some (ra 19 22 (.invokestatic 102) 97 1 992) := ch95_0 (j := 11) rfl
theorem r95_22 : rowAt 95 22 = some (ra 22 25 (.invokevirtual 68) 78 3 915) := ch95_0 (j := 12) rfl
theorem r95_25 : rowAt 95 25 = some (r0 25 26 (.aload_n 0)) := ch95_0 (j := 13) rfl
theorem r95_26 : rowAt 95 26 = some (26, 27, .iconst 1, 0, 0, 0, 1, 0) := ch95_0 (j := 14) rfl
theorem r95_27 : rowAt 95 27 = some (27, 28, .lconst 1, 0, 0, 0, 0, 1) := ch95_0 (j := 15) rfl
theorem r95_28 : rowAt 95 28 = some (ra 28 31 (.invokevirtual 68) 78 3 915) := ch95_0 (j := 16) rfl
theorem r95_31 : rowAt 95 31 = some (ra 31 32 (.lload_n 1) 1 0 0) := ch95_0 (j := 17) rfl
theorem r95_32 : rowAt 95 32 = some (ra 32 35 (.invokestatic 105) 99 1 1000) := ch95_0 (j := 18) rfl
theorem r95_35 : rowAt 95 35 = some (ra 35 36 (.istore_n 3) 3 0 0) := ch95_0 (j := 19) rfl
theorem r95_36 : rowAt 95 36 = some (ra 36 37 (.iload_n 3) 3 0 0) := ch95_0 (j := 20) rfl
theorem r95_37 : rowAt 95 37 = some (ra 37 40 (.ifCond .le 12) 49 0 0) := ch95_0 (j := 21) rfl
theorem r95_40 : rowAt 95 40 = some (r0 40 41 (.aload_n 0)) := ch95_0 (j := 22) rfl
theorem r95_41 : rowAt 95 41 = some (r0 41 42 (.iconst 0)) := ch95_0 (j := 23) rfl
theorem r95_42 : rowAt 95 42 = some (ra 42 43 (.iload_n 3) 3 0 0) := ch95_0 (j := 24) rfl
theorem r95_43 : rowAt 95 43 = some (ra 43 46 (.invokevirtual 34) 89 3 960) := ch95_0 (j := 25) rfl
theorem r95_46 : rowAt 95 46 = some (ra 46 49 (.goto 10) 56 0 0) := ch95_0 (j := 26) rfl
theorem r95_49 : rowAt 95 49 = some (r0 49 50 (.aload_n 0)) := ch95_0 (j := 27) rfl
theorem r95_50 : rowAt 95 50 = some (50, 51, .iconst 1, 0, 0, 0, 1, 0) := ch95_0 (j := 28) rfl
theorem r95_51 : rowAt 95 51 = some (ra 51 52 (.iload_n 3) 3 0 0) := ch95_0 (j := 29) rfl
theorem r95_52 : rowAt 95 52 = some (r0 52 53 (.ineg)) := ch95_0 (j := 30) rfl
theorem r95_53 : rowAt 95 53 = some (ra 53 56 (.invokevirtual 34) 89 3 960) := ch95_0 (j := 31) rfl
theorem r95_56 : rowAt 95 56 = some (r0 56 57 (.aload_n 0)) := ch95_0 (j := 32) rfl
theorem r95_57 : rowAt 95 57 = some (ra 57 58 (.lload_n 1) 1 0 0) := ch95_0 (j := 33) rfl
theorem r95_58 : rowAt 95 58 = some (ra 58 61 (.invokestatic 108) 100 1 1003) := ch95_0 (j := 34) rfl
theorem r95_61 : rowAt 95 61 = some (61, 62, .iconst 2, 0, 0, 0, 2, 0) := ch95_0 (j := 35) rfl
theorem r95_62 : rowAt 95 62 = some (ra 62 65 (.invokevirtual 86) 80 3 924) := ch95_0 (j := 36) rfl
theorem r95_65 : rowAt 95 65 = some (r0 65 66 (.ireturn)) := ch95_0 (j := 37) rfl
theorem b95_0 {d : Nat} {q : Rs} {x0 : Nat} {x1 : Int64} {σ : St} {σ2 : St} {r : Int32} 
    (hy : Er d 96 (0, ent 96 [.long x1], [], σ) (.inl (some (.int r)), σ2, 0))
    (k : Er (d + 1) 95 (4, [some (.ref x0), some (.long x1), none, none], [.int r], σ2) q) :
    Er (d + 1) 95 (0, [some (.ref x0), some (.long x1), none, none], [], σ) q := Er.sT (c2 := (1, [some (.ref x0), some (.long x1), none, none], [.long x1], σ)) r95_0 rfl rfl <| (Er.call (vs := [.long x1]) (rest := []) r95_1 rfl rfl (Nat.le_of_ble_eq_true rfl) (Nat.le_of_ble_eq_true rfl) (fun h => absurd h (by decide +kernel)) hy k)
theorem b95_4 {d : Nat} {q : Rs} {x0 : Nat} {x1 : Int64} {s0 : Int32} {σ : St} 
    (kt : ¬ s0 = (2047 : Int32) → Er (d + 1) 95 (16, [some (.ref x0), some (.long x1), none, none], [], σ) q)
    (kf : s0 = (2047 : Int32) → Er (d + 1) 95 (10, [some (.ref x0), some (.long x1), none, none], [], σ) q) :
    Er (d + 1) 95 (4, [some (.ref x0), some (.long x1), none, none], [.int s0], σ) q := Er.sT (c2 := (7, [some (.ref x0), some (.long x1), none, none], [.int (2047 : Int32), .int s0], σ)) r95_4 rfl rfl <| Er.sT (c2 := (brn .ne s0 (2047 : Int32) 16 10, [some (.ref x0), some (.long x1), none, none], [], σ)) r95_7 rfl rfl <| (br_ne kt kf)
theorem b95_10 {d : Nat} {q : Rs} {x0 : Nat} {x1 : Int64} {σ : St} {σ2 : St} {r : Int32} (h1 : x0 < 24 ∧ kls x0 = 5)
    (hy : Er d 93 (0, ent 93 [.ref x0, .int (1 : Int32)], [], σ) (.inl (some (.int r)), σ2, 0))
    (k : Er (d + 1) 95 (15, [some (.ref x0), some (.long x1), none, none], [.int r], σ2) q) :
    Er (d + 1) 95 (10, [some (.ref x0), some (.long x1), none, none], [], σ) q := Er.sT (c2 := (11, [some (.ref x0), some (.long x1), none, none], [.ref x0], σ)) r95_10 rfl rfl <| Er.sT (c2 := (12, [some (.ref x0), some (.long x1), none, none], [.int (1 : Int32), .ref x0], σ)) r95_11 rfl rfl <| (Er.call (vs := [.ref x0, .int (1 : Int32)]) (rest := []) r95_12 rfl rfl (Nat.le_of_ble_eq_true rfl) (Nat.le_of_ble_eq_true rfl) (fun _ => ⟨_, _, rfl, h1⟩) hy k)
theorem b95_15 {d : Nat} {x0 : Nat} {x1 : Int64} {s0 : Int32} {σ : St}  :
    Er (d + 1) 95 (15, [some (.ref x0), some (.long x1), none, none], [.int s0], σ) (.inl (some (.int s0)), σ, 0) := (Er.ret r95_15 rfl ⟨_, _, rfl, rfl, rfl, rfl⟩)
theorem b95_16 {d : Nat} {q : Rs} {x0 : Nat} {x1 : Int64} {σ : St} {σ2 : St} {r : Int64} 
    (hy : Er d 97 (0, ent 97 [.long x1], [], σ) (.inl (some (.long r)), σ2, 0))
    (k : Er (d + 1) 95 (22, [some (.ref x0), some (.long x1), none, none], [.long r, .int (0 : Int32), .ref x0], σ2) q) :
    Er (d + 1) 95 (16, [some (.ref x0), some (.long x1), none, none], [], σ) q := Er.sT (c2 := (17, [some (.ref x0), some (.long x1), none, none], [.ref x0], σ)) r95_16 rfl rfl <| Er.sT (c2 := (18, [some (.ref x0), some (.long x1), none, none], [.int (0 : Int32), .ref x0], σ)) r95_17 rfl rfl <| Er.sT (c2 := (19, [some (.ref x0), some (.long x1), none, none], [.long x1, .int (0 : Int32), .ref x0], σ)) r95_18 rfl rfl <| (Er.call (vs := [.long x1]) (rest := [.int (0 : Int32), .ref x0]) r95_19 rfl rfl (Nat.le_of_ble_eq_true rfl) (Nat.le_of_ble_eq_true rfl) (fun h => absurd h (by decide +kernel)) hy k)
theorem b95_22 {d : Nat} {q : Rs} {x0 : Nat} {x1 : Int64} {s0 : Nat} {s1 : Int32} {s2 : Int64} {σ : St} {σ2 : St}  (h1 : s0 < 24 ∧ kls s0 = 5)
    (hy : Er d 78 (0, ent 78 [.ref s0, .int s1, .long s2], [], σ) (.inl none, σ2, 0))
    (k : Er (d + 1) 95 (25, [some (.ref x0), some (.long x1), none, none], [], σ2) q) :
    Er (d + 1) 95 (22, [some (.ref x0), some (.long x1), none, none], [.long s2, .int s1, .ref s0], σ) q := (Er.call (vs := [.ref s0, .int s1, .long s2]) (rest := []) r95_22 rfl rfl (Nat.le_of_ble_eq_true rfl) (Nat.le_of_ble_eq_true rfl) (fun _ => ⟨_, _, rfl, h1⟩) hy k)
theorem b95_25 {d : Nat} {q : Rs} {x0 : Nat} {x1 : Int64} {σ : St} {σ2 : St}  (h1 : x0 < 24 ∧ kls x0 = 5)
    (hy : Er d 78 (0, ent 78 [.ref x0, .int (1 : Int32), .long (1 : Int64)], [], σ) (.inl none, σ2, 0))
    (k : Er (d + 1) 95 (31, [some (.ref x0), some (.long x1), none, none], [], σ2) q) :
    Er (d + 1) 95 (25, [some (.ref x0), some (.long x1), none, none], [], σ) q := Er.sT (c2 := (26, [some (.ref x0), some (.long x1), none, none], [.ref x0], σ)) r95_25 rfl rfl <| Er.sT (c2 := (27, [some (.ref x0), some (.long x1), none, none], [.int (1 : Int32), .ref x0], σ)) r95_26 rfl rfl <| Er.sT (c2 := (28, [some (.ref x0), some (.long x1), none, none], [.long (1 : Int64), .int (1 : Int32), .ref x0], σ)) r95_27 rfl rfl <| (Er.call (vs := [.ref x0, .int (1 : Int32), .long (1 : Int64)]) (rest := []) r95_28 rfl rfl (Nat.le_of_ble_eq_true rfl) (Nat.le_of_ble_eq_true rfl) (fun _ => ⟨_, _, rfl, h1⟩) hy k)
theorem b95_31 {d : Nat} {q : Rs} {x0 : Nat} {x1 : Int64} {σ : St} {σ2 : St} {r : Int32} 
    (hy : Er d 99 (0, ent 99 [.long x1], [], σ) (.inl (some (.int r)), σ2, 0))
    (k : Er (d + 1) 95 (35, [some (.ref x0), some (.long x1), none, none], [.int r], σ2) q) :
    Er (d + 1) 95 (31, [some (.ref x0), some (.long x1), none, none], [], σ) q := Er.sT (c2 := (32, [some (.ref x0), some (.long x1), none, none], [.long x1], σ)) r95_31 rfl rfl <| (Er.call (vs := [.long x1]) (rest := []) r95_32 rfl rfl (Nat.le_of_ble_eq_true rfl) (Nat.le_of_ble_eq_true rfl) (fun h => absurd h (by decide +kernel)) hy k)
theorem b95_35 {d : Nat} {q : Rs} {x0 : Nat} {x1 : Int64} {s0 : Int32} {σ : St} 
    (kt : s0 ≤ (0 : Int32) → Er (d + 1) 95 (49, [some (.ref x0), some (.long x1), none, some (.int s0)], [], σ) q)
    (kf : ¬ s0 ≤ (0 : Int32) → Er (d + 1) 95 (40, [some (.ref x0), some (.long x1), none, some (.int s0)], [], σ) q) :
    Er (d + 1) 95 (35, [some (.ref x0), some (.long x1), none, none], [.int s0], σ) q := Er.sT (c2 := (36, [some (.ref x0), some (.long x1), none, some (.int s0)], [], σ)) r95_35 rfl rfl <| Er.sT (c2 := (37, [some (.ref x0), some (.long x1), none, some (.int s0)], [.int s0], σ)) r95_36 rfl rfl <| Er.sT (c2 := (brn .le s0 (0 : Int32) 49 40, [some (.ref x0), some (.long x1), none, some (.int s0)], [], σ)) r95_37 rfl rfl <| (br_le kt kf)
theorem b95_40 {d : Nat} {q : Rs} {x0 : Nat} {x1 : Int64} {x3 : Int32} {σ : St} {σ2 : St}  (h1 : x0 < 24 ∧ kls x0 = 5)
    (hy : Er d 89 (0, ent 89 [.ref x0, .int (0 : Int32), .int x3], [], σ) (.inl none, σ2, 0))
    (k : Er (d + 1) 95 (46, [some (.ref x0), some (.long x1), none, some (.int x3)], [], σ2) q) :
    Er (d + 1) 95 (40, [some (.ref x0), some (.long x1), none, some (.int x3)], [], σ) q := Er.sT (c2 := (41, [some (.ref x0), some (.long x1), none, some (.int x3)], [.ref x0], σ)) r95_40 rfl rfl <| Er.sT (c2 := (42, [some (.ref x0), some (.long x1), none, some (.int x3)], [.int (0 : Int32), .ref x0], σ)) r95_41 rfl rfl <| Er.sT (c2 := (43, [some (.ref x0), some (.long x1), none, some (.int x3)], [.int x3, .int (0 : Int32), .ref x0], σ)) r95_42 rfl rfl <| (Er.call (vs := [.ref x0, .int (0 : Int32), .int x3]) (rest := []) r95_43 rfl rfl (Nat.le_of_ble_eq_true rfl) (Nat.le_of_ble_eq_true rfl) (fun _ => ⟨_, _, rfl, h1⟩) hy k)
theorem b95_46 {d : Nat} {q : Rs} {x0 : Nat} {x1 : Int64} {x3 : Int32} {σ : St} 
    (k : Er (d + 1) 95 (56, [some (.ref x0), some (.long x1), none, some (.int x3)], [], σ) q) :
    Er (d + 1) 95 (46, [some (.ref x0), some (.long x1), none, some (.int x3)], [], σ) q := Er.sT (c2 := (56, [some (.ref x0), some (.long x1), none, some (.int x3)], [], σ)) r95_46 rfl rfl <| k
theorem b95_49 {d : Nat} {q : Rs} {x0 : Nat} {x1 : Int64} {x3 : Int32} {σ : St} {σ2 : St}  (h1 : x0 < 24 ∧ kls x0 = 5)
    (hy : Er d 89 (0, ent 89 [.ref x0, .int (1 : Int32), .int (-x3)], [], σ) (.inl none, σ2, 0))
    (k : Er (d + 1) 95 (56, [some (.ref x0), some (.long x1), none, some (.int x3)], [], σ2) q) :
    Er (d + 1) 95 (49, [some (.ref x0), some (.long x1), none, some (.int x3)], [], σ) q := Er.sT (c2 := (50, [some (.ref x0), some (.long x1), none, some (.int x3)], [.ref x0], σ)) r95_49 rfl rfl <| Er.sT (c2 := (51, [some (.ref x0), some (.long x1), none, some (.int x3)], [.int (1 : Int32), .ref x0], σ)) r95_50 rfl rfl <| Er.sT (c2 := (52, [some (.ref x0), some (.long x1), none, some (.int x3)], [.int x3, .int (1 : Int32), .ref x0], σ)) r95_51 rfl rfl <| Er.sT (c2 := (53, [some (.ref x0), some (.long x1), none, some (.int x3)], [.int (-x3), .int (1 : Int32), .ref x0], σ)) r95_52 rfl rfl <| (Er.call (vs := [.ref x0, .int (1 : Int32), .int (-x3)]) (rest := []) r95_53 rfl rfl (Nat.le_of_ble_eq_true rfl) (Nat.le_of_ble_eq_true rfl) (fun _ => ⟨_, _, rfl, h1⟩) hy k)
theorem b95_56 {d : Nat} {q : Rs} {x0 : Nat} {x1 : Int64} {x3 : Int32} {σ : St} {σ2 : St} {r : Int32} 
    (hy : Er d 100 (0, ent 100 [.long x1], [], σ) (.inl (some (.int r)), σ2, 0))
    (k : Er (d + 1) 95 (61, [some (.ref x0), some (.long x1), none, some (.int x3)], [.int r, .ref x0], σ2) q) :
    Er (d + 1) 95 (56, [some (.ref x0), some (.long x1), none, some (.int x3)], [], σ) q := Er.sT (c2 := (57, [some (.ref x0), some (.long x1), none, some (.int x3)], [.ref x0], σ)) r95_56 rfl rfl <| Er.sT (c2 := (58, [some (.ref x0), some (.long x1), none, some (.int x3)], [.long x1, .ref x0], σ)) r95_57 rfl rfl <| (Er.call (vs := [.long x1]) (rest := [.ref x0]) r95_58 rfl rfl (Nat.le_of_ble_eq_true rfl) (Nat.le_of_ble_eq_true rfl) (fun h => absurd h (by decide +kernel)) hy k)
theorem b95_61 {d : Nat} {q : Rs} {x0 : Nat} {x1 : Int64} {x3 : Int32} {s0 : Nat} {s1 : Int32} {σ : St} {σ2 : St} {r : Int32} (h1 : s0 < 24 ∧ kls s0 = 5)
    (hy : Er d 80 (0, ent 80 [.ref s0, .int s1, .int (2 : Int32)], [], σ) (.inl (some (.int r)), σ2, 0))
    (k : Er (d + 1) 95 (65, [some (.ref x0), some (.long x1), none, some (.int x3)], [.int r], σ2) q) :
    Er (d + 1) 95 (61, [some (.ref x0), some (.long x1), none, some (.int x3)], [.int s1, .ref s0], σ) q := Er.sT (c2 := (62, [some (.ref x0), some (.long x1), none, some (.int x3)], [.int (2 : Int32), .int s1, .ref s0], σ)) r95_61 rfl rfl <| (Er.call (vs := [.ref s0, .int s1, .int (2 : Int32)]) (rest := []) r95_62 rfl rfl (Nat.le_of_ble_eq_true rfl) (Nat.le_of_ble_eq_true rfl) (fun _ => ⟨_, _, rfl, h1⟩) hy k)
theorem b95_65 {d : Nat} {x0 : Nat} {x1 : Int64} {x3 : Int32} {s0 : Int32} {σ : St}  :
    Er (d + 1) 95 (65, [some (.ref x0), some (.long x1), none, some (.int x3)], [.int s0], σ) (.inl (some (.int s0)), σ, 0) := (Er.ret r95_65 rfl ⟨_, _, rfl, rfl, rfl, rfl⟩)
/-! NumberModelsModel.exponent(J)I -/
theorem tab_96 : tab 96 = tb96_0 := rfl
theorem ch96_0 {j : Nat} {r : Row} (h : tb96_0[j]? = some r) : rowAt 96 r.1 = some r := row_mem 96 (by decide) (by rw [tab_96]; exact List.mem_of_getElem? h)
theorem r96_0 : rowAt 96 0 = some (r0 0 1 (.lload_n 0)) := ch96_0 (j := 0) rfl
theorem r96_1 : rowAt 96 1 = some (1, 3, .bipush 52, 0, 0, 0, 52, 0) := ch96_0 (j := 1) rfl
theorem r96_3 : rowAt 96 3 = some (r0 3 4 (.lshr)) := ch96_0 (j := 2) rfl
theorem r96_4 : rowAt 96 4 = some (4, 7, .ldc2_w 89, 0, 0, 991, 0, 2047) := ch96_0 (j := 3) rfl
theorem r96_7 : rowAt 96 7 = some (r0 7 8 (.land)) := ch96_0 (j := 4) rfl
theorem r96_8 : rowAt 96 8 = some (r0 8 9 (.l2i)) := ch96_0 (j := 5) rfl
theorem r96_9 : rowAt 96 9 = some (r0 9 10 (.ireturn)) := ch96_0 (j := 6) rfl
theorem b96_0 {d : Nat} {x0 : Int64} {σ : St}  :
    Er (d + 1) 96 (0, [some (.long x0), none], [], σ) (.inl (some (.int (((x0 >>> ((52 : Int32).toInt64 &&& 63)) &&& (2047 : Int64)).toInt32))), σ, 0) := Er.sT (c2 := (1, [some (.long x0), none], [.long x0], σ)) r96_0 rfl rfl <| Er.sT (c2 := (3, [some (.long x0), none], [.int (52 : Int32), .long x0], σ)) r96_1 rfl rfl <| Er.sT (c2 := (4, [some (.long x0), none], [.long (x0 >>> ((52 : Int32).toInt64 &&& 63))], σ)) r96_3 rfl rfl <| Er.sT (c2 := (7, [some (.long x0), none], [.long (2047 : Int64), .long (x0 >>> ((52 : Int32).toInt64 &&& 63))], σ)) r96_4 rfl rfl <| Er.sT (c2 := (8, [some (.long x0), none], [.long ((x0 >>> ((52 : Int32).toInt64 &&& 63)) &&& (2047 : Int64))], σ)) r96_7 rfl rfl <| Er.sT (c2 := (9, [some (.long x0), none], [.int (((x0 >>> ((52 : Int32).toInt64 &&& 63)) &&& (2047 : Int64)).toInt32)], σ)) r96_8 rfl rfl <| (Er.ret r96_9 rfl ⟨_, _, rfl, rfl, rfl, rfl⟩)
/-! NumberModelsModel.factor(J)J -/
theorem tab_97 : tab 97 = tb97_0 := rfl
theorem ch97_0 {j : Nat} {r : Row} (h : tb97_0[j]? = some r) : rowAt 97 r.1 = some r := row_mem 97 (by decide) (by rw [tab_97]; exact List.mem_of_getElem? h)
theorem r97_0 : rowAt 97 0 = some (r0 0 1 (.lload_n 0)) := ch97_0 (j := 0) rfl
theorem r97_1 : rowAt 97 1 = some (ra 1 4 (.invokestatic 93) 96 1 988) := ch97_0 (j := 1) rfl
theorem r97_4 : rowAt 97 4 = some (ra 4 7 (.ifCond .ne 10) 14 0 0) := ch97_0 (j := 2) rfl
theorem r97_7 : rowAt 97 7 = some (r0 7 8 (.lload_n 0)) := ch97_0 (j := 3) rfl
theorem r97_8 : rowAt 97 8 = some (ra 8 11 (.invokestatic 97) 98 1 995) := ch97_0 (j := 4) rfl
theorem r97_11 : rowAt 97 11 = some (ra 11 14 (.goto 11) 22 0 0) := ch97_0 (j := 5) rfl
theorem r97_14 : rowAt 97 14 = some (r0 14 15 (.lload_n 0)) := ch97_0 (j := 6) rfl
theorem r97_15 : rowAt 97 15 = some (ra 15 18 (.invokestatic 97) 98 1 995) := ch97_0 (j := 7) rfl
theorem r97_18 : rowAt 97 18 = some (18, 21, .ldc2_w 100, 0, 0, 999, 0, 4503599627370496) := ch97_0 (j := 8) rfl
theorem r97_21 : rowAt 97 21 = some (r0 21 22 (.lor)) := ch97_0 (j := 9) rfl
theorem r97_22 : rowAt 97 22 = some (r0 22 23 (.lreturn)) := ch97_0 (j := 10) rfl
theorem b97_0 {d : Nat} {q : Rs} {x0 : Int64} {σ : St} {σ2 : St} {r : Int32} 
    (hy : Er d 96 (0, ent 96 [.long x0], [], σ) (.inl (some (.int r)), σ2, 0))
    (k : Er (d + 1) 97 (4, [some (.long x0), none], [.int r], σ2) q) :
    Er (d + 1) 97 (0, [some (.long x0), none], [], σ) q := Er.sT (c2 := (1, [some (.long x0), none], [.long x0], σ)) r97_0 rfl rfl <| (Er.call (vs := [.long x0]) (rest := []) r97_1 rfl rfl (Nat.le_of_ble_eq_true rfl) (Nat.le_of_ble_eq_true rfl) (fun h => absurd h (by decide +kernel)) hy k)
theorem b97_4 {d : Nat} {q : Rs} {x0 : Int64} {s0 : Int32} {σ : St} 
    (kt : ¬ s0 = (0 : Int32) → Er (d + 1) 97 (14, [some (.long x0), none], [], σ) q)
    (kf : s0 = (0 : Int32) → Er (d + 1) 97 (7, [some (.long x0), none], [], σ) q) :
    Er (d + 1) 97 (4, [some (.long x0), none], [.int s0], σ) q := Er.sT (c2 := (brn .ne s0 (0 : Int32) 14 7, [some (.long x0), none], [], σ)) r97_4 rfl rfl <| (br_ne kt kf)
theorem b97_7 {d : Nat} {q : Rs} {x0 : Int64} {σ : St} {σ2 : St} {r : Int64} 
    (hy : Er d 98 (0, ent 98 [.long x0], [], σ) (.inl (some (.long r)), σ2, 0))
    (k : Er (d + 1) 97 (11, [some (.long x0), none], [.long r], σ2) q) :
    Er (d + 1) 97 (7, [some (.long x0), none], [], σ) q := Er.sT (c2 := (8, [some (.long x0), none], [.long x0], σ)) r97_7 rfl rfl <| (Er.call (vs := [.long x0]) (rest := []) r97_8 rfl rfl (Nat.le_of_ble_eq_true rfl) (Nat.le_of_ble_eq_true rfl) (fun h => absurd h (by decide +kernel)) hy k)
theorem b97_11 {d : Nat} {q : Rs} {x0 : Int64} {s0 : Int64} {σ : St} 
    (k : Er (d + 1) 97 (22, [some (.long x0), none], [.long s0], σ) q) :
    Er (d + 1) 97 (11, [some (.long x0), none], [.long s0], σ) q := Er.sT (c2 := (22, [some (.long x0), none], [.long s0], σ)) r97_11 rfl rfl <| k
theorem b97_14 {d : Nat} {q : Rs} {x0 : Int64} {σ : St} {σ2 : St} {r : Int64} 
    (hy : Er d 98 (0, ent 98 [.long x0], [], σ) (.inl (some (.long r)), σ2, 0))
    (k : Er (d + 1) 97 (18, [some (.long x0), none], [.long r], σ2) q) :
    Er (d + 1) 97 (14, [some (.long x0), none], [], σ) q := Er.sT (c2 := (15, [some (.long x0), none], [.long x0], σ)) r97_14 rfl rfl <| (Er.call (vs := [.long x0]) (rest := []) r97_15 rfl rfl (Nat.le_of_ble_eq_true rfl) (Nat.le_of_ble_eq_true rfl) (fun h => absurd h (by decide +kernel)) hy k)
theorem b97_18 {d : Nat} {q : Rs} {x0 : Int64} {s0 : Int64} {σ : St} 
    (k : Er (d + 1) 97 (22, [some (.long x0), none], [.long (s0 ||| (4503599627370496 : Int64))], σ) q) :
    Er (d + 1) 97 (18, [some (.long x0), none], [.long s0], σ) q := Er.sT (c2 := (21, [some (.long x0), none], [.long (4503599627370496 : Int64), .long s0], σ)) r97_18 rfl rfl <| Er.sT (c2 := (22, [some (.long x0), none], [.long (s0 ||| (4503599627370496 : Int64))], σ)) r97_21 rfl rfl <| k
theorem b97_22 {d : Nat} {x0 : Int64} {s0 : Int64} {σ : St}  :
    Er (d + 1) 97 (22, [some (.long x0), none], [.long s0], σ) (.inl (some (.long s0)), σ, 0) := (Er.ret r97_22 rfl ⟨_, rfl, rfl, rfl⟩)
/-! NumberModelsModel.part(J)J -/
theorem tab_98 : tab 98 = tb98_0 := rfl
theorem ch98_0 {j : Nat} {r : Row} (h : tb98_0[j]? = some r) : rowAt 98 r.1 = some r := row_mem 98 (by decide) (by rw [tab_98]; exact List.mem_of_getElem? h)
theorem r98_0 : rowAt 98 0 = some (r0 0 1 (.lload_n 0)) := ch98_0 (j := 0) rfl
theorem r98_1 : rowAt 98 1 = some (1, 4, .ldc2_w 91, 0, 0, 998, 0, 4503599627370495) := ch98_0 (j := 1) rfl
theorem r98_4 : rowAt 98 4 = some (r0 4 5 (.land)) := ch98_0 (j := 2) rfl
theorem r98_5 : rowAt 98 5 = some (r0 5 6 (.lreturn)) := ch98_0 (j := 3) rfl
theorem b98_0 {d : Nat} {x0 : Int64} {σ : St}  :
    Er (d + 1) 98 (0, [some (.long x0), none], [], σ) (.inl (some (.long (x0 &&& (4503599627370495 : Int64)))), σ, 0) := Er.sT (c2 := (1, [some (.long x0), none], [.long x0], σ)) r98_0 rfl rfl <| Er.sT (c2 := (4, [some (.long x0), none], [.long (4503599627370495 : Int64), .long x0], σ)) r98_1 rfl rfl <| Er.sT (c2 := (5, [some (.long x0), none], [.long (x0 &&& (4503599627370495 : Int64))], σ)) r98_4 rfl rfl <| (Er.ret r98_5 rfl ⟨_, rfl, rfl, rfl⟩)
/-! NumberModelsModel.place(J)I -/
theorem tab_99 : tab 99 = tb99_0 := rfl
theorem ch99_0 {j : Nat} {r : Row} (h : tb99_0[j]? = some r) : rowAt 99 r.1 = some r := row_mem 99 (by decide) (by rw [tab_99]; exact List.mem_of_getElem? h)
theorem r99_0 : rowAt 99 0 = some (r0 0 1 (.lload_n 0)) := ch99_0 (j := 0) rfl
theorem r99_1 : rowAt 99 1 = some (ra 1 4 (.invokestatic 93) 96 1 988) := ch99_0 (j := 1) rfl
theorem r99_4 : rowAt 99 4 = some (ra 4 7 (.ifCond .ne 9) 13 0 0) := ch99_0 (j := 2) rfl
theorem r99_7 : rowAt 99 7 = some (7, 10, .sipush (-1074), 0, 0, 0, (-1074), 0) := ch99_0 (j := 3) rfl
theorem r99_10 : rowAt 99 10 = some (ra 10 13 (.goto 11) 21 0 0) := ch99_0 (j := 4) rfl
theorem r99_13 : rowAt 99 13 = some (r0 13 14 (.lload_n 0)) := ch99_0 (j := 5) rfl
theorem r99_14 : rowAt 99 14 = some (ra 14 17 (.invokestatic 93) 96 1 988) := ch99_0 (j := 6) rfl
theorem r99_17 : rowAt 99 17 = some (17, 20, .sipush 1075, 0, 0, 0, 1075, 0) := ch99_0 (j := 7) rfl
theorem r99_20 : rowAt 99 20 = some (r0 20 21 (.isub)) := ch99_0 (j := 8) rfl
theorem r99_21 : rowAt 99 21 = some (r0 21 22 (.ireturn)) := ch99_0 (j := 9) rfl
theorem b99_0 {d : Nat} {q : Rs} {x0 : Int64} {σ : St} {σ2 : St} {r : Int32} 
    (hy : Er d 96 (0, ent 96 [.long x0], [], σ) (.inl (some (.int r)), σ2, 0))
    (k : Er (d + 1) 99 (4, [some (.long x0), none], [.int r], σ2) q) :
    Er (d + 1) 99 (0, [some (.long x0), none], [], σ) q := Er.sT (c2 := (1, [some (.long x0), none], [.long x0], σ)) r99_0 rfl rfl <| (Er.call (vs := [.long x0]) (rest := []) r99_1 rfl rfl (Nat.le_of_ble_eq_true rfl) (Nat.le_of_ble_eq_true rfl) (fun h => absurd h (by decide +kernel)) hy k)
theorem b99_4 {d : Nat} {q : Rs} {x0 : Int64} {s0 : Int32} {σ : St} 
    (kt : ¬ s0 = (0 : Int32) → Er (d + 1) 99 (13, [some (.long x0), none], [], σ) q)
    (kf : s0 = (0 : Int32) → Er (d + 1) 99 (7, [some (.long x0), none], [], σ) q) :
    Er (d + 1) 99 (4, [some (.long x0), none], [.int s0], σ) q := Er.sT (c2 := (brn .ne s0 (0 : Int32) 13 7, [some (.long x0), none], [], σ)) r99_4 rfl rfl <| (br_ne kt kf)
theorem b99_7 {d : Nat} {q : Rs} {x0 : Int64} {σ : St} 
    (k : Er (d + 1) 99 (21, [some (.long x0), none], [.int (-1074 : Int32)], σ) q) :
    Er (d + 1) 99 (7, [some (.long x0), none], [], σ) q := Er.sT (c2 := (10, [some (.long x0), none], [.int (-1074 : Int32)], σ)) r99_7 rfl rfl <| Er.sT (c2 := (21, [some (.long x0), none], [.int (-1074 : Int32)], σ)) r99_10 rfl rfl <| k
theorem b99_13 {d : Nat} {q : Rs} {x0 : Int64} {σ : St} {σ2 : St} {r : Int32} 
    (hy : Er d 96 (0, ent 96 [.long x0], [], σ) (.inl (some (.int r)), σ2, 0))
    (k : Er (d + 1) 99 (17, [some (.long x0), none], [.int r], σ2) q) :
    Er (d + 1) 99 (13, [some (.long x0), none], [], σ) q := Er.sT (c2 := (14, [some (.long x0), none], [.long x0], σ)) r99_13 rfl rfl <| (Er.call (vs := [.long x0]) (rest := []) r99_14 rfl rfl (Nat.le_of_ble_eq_true rfl) (Nat.le_of_ble_eq_true rfl) (fun h => absurd h (by decide +kernel)) hy k)
theorem b99_17 {d : Nat} {q : Rs} {x0 : Int64} {s0 : Int32} {σ : St} 
    (k : Er (d + 1) 99 (21, [some (.long x0), none], [.int (s0 - (1075 : Int32))], σ) q) :
    Er (d + 1) 99 (17, [some (.long x0), none], [.int s0], σ) q := Er.sT (c2 := (20, [some (.long x0), none], [.int (1075 : Int32), .int s0], σ)) r99_17 rfl rfl <| Er.sT (c2 := (21, [some (.long x0), none], [.int (s0 - (1075 : Int32))], σ)) r99_20 rfl rfl <| k
theorem b99_21 {d : Nat} {x0 : Int64} {s0 : Int32} {σ : St}  :
    Er (d + 1) 99 (21, [some (.long x0), none], [.int s0], σ) (.inl (some (.int s0)), σ, 0) := (Er.ret r99_21 rfl ⟨_, _, rfl, rfl, rfl, rfl⟩)
/-! NumberModelsModel.signOf(J)I -/
theorem tab_100 : tab 100 = tb100_0 := rfl
theorem ch100_0 {j : Nat} {r : Row} (h : tb100_0[j]? = some r) : rowAt 100 r.1 = some r := row_mem 100 (by decide) (by rw [tab_100]; exact List.mem_of_getElem? h)
theorem r100_0 : rowAt 100 0 = some (r0 0 1 (.lload_n 0)) := ch100_0 (j := 0) rfl
theorem r100_1 : rowAt 100 1 = some (r0 1 2 (.lconst 0)) := ch100_0 (j := 1) rfl
theorem r100_2 : rowAt 100 2 = some (r0 2 3 (.lcmp)) := ch100_0 (j := 2) rfl
theorem r100_3 : rowAt 100 3 = some (ra 3 6 (.ifCond .ge 7) 10 0 0) := ch100_0 (j := 3) rfl
theorem r100_6 : rowAt 100 6 = some (6, 7, .iconst (-1), 0, 0, 0, (-1), 0) := ch100_0 (j := 4) rfl
theorem r100_7 : rowAt 100 7 = some (ra 7 10 (.goto 4) 11 0 0) := ch100_0 (j := 5) rfl
theorem r100_10 : rowAt 100 10 = some (10, 11, .iconst 1, 0, 0, 0, 1, 0) := ch100_0 (j := 6) rfl
theorem r100_11 : rowAt 100 11 = some (r0 11 12 (.ireturn)) := ch100_0 (j := 7) rfl
theorem b100_0 {d : Nat} {q : Rs} {x0 : Int64} {σ : St} 
    (kt : ¬ x0 < (0 : Int64) → Er (d + 1) 100 (10, [some (.long x0), none], [], σ) q)
    (kf : x0 < (0 : Int64) → Er (d + 1) 100 (6, [some (.long x0), none], [], σ) q) :
    Er (d + 1) 100 (0, [some (.long x0), none], [], σ) q := Er.sT (c2 := (1, [some (.long x0), none], [.long x0], σ)) r100_0 rfl rfl <| Er.sT (c2 := (2, [some (.long x0), none], [.long (0 : Int64), .long x0], σ)) r100_1 rfl rfl <| Er.sT (c2 := (3, [some (.long x0), none], [.int (lg_cmp x0 (0 : Int64))], σ)) r100_2 rfl rfl <| Er.sT (c2 := (brn .ge (lg_cmp x0 (0 : Int64)) (0 : Int32) 10 6, [some (.long x0), none], [], σ)) r100_3 rfl rfl <| (bl_ge kt kf)
theorem b100_6 {d : Nat} {q : Rs} {x0 : Int64} {σ : St} 
    (k : Er (d + 1) 100 (11, [some (.long x0), none], [.int (-1 : Int32)], σ) q) :
    Er (d + 1) 100 (6, [some (.long x0), none], [], σ) q := Er.sT (c2 := (7, [some (.long x0), none], [.int (-1 : Int32)], σ)) r100_6 rfl rfl <| Er.sT (c2 := (11, [some (.long x0), none], [.int (-1 : Int32)], σ)) r100_7 rfl rfl <| k
theorem b100_10 {d : Nat} {q : Rs} {x0 : Int64} {σ : St} 
    (k : Er (d + 1) 100 (11, [some (.long x0), none], [.int (1 : Int32)], σ) q) :
    Er (d + 1) 100 (10, [some (.long x0), none], [], σ) q := Er.sT (c2 := (11, [some (.long x0), none], [.int (1 : Int32)], σ)) r100_10 rfl rfl <| k
theorem b100_11 {d : Nat} {x0 : Int64} {s0 : Int32} {σ : St}  :
    Er (d + 1) 100 (11, [some (.long x0), none], [.int s0], σ) (.inl (some (.int s0)), σ, 0) := (Er.ret r100_11 rfl ⟨_, _, rfl, rfl, rfl, rfl⟩)
/-! NumberModelsModel.act(III)I -/
theorem tab_101 : tab 101 = tb101_0 ++ tb101_1 ++ tb101_2 ++ tb101_3 := rfl
theorem ch101_0 {j : Nat} {r : Row} (h : tb101_0[j]? = some r) : rowAt 101 r.1 = some r := row_mem 101 (by decide) (by rw [tab_101]; exact (List.mem_append_left _ (List.mem_append_left _ (List.mem_append_left _ (List.mem_of_getElem? h)))))
theorem ch101_1 {j : Nat} {r : Row} (h : tb101_1[j]? = some r) : rowAt 101 r.1 = some r := row_mem 101 (by decide) (by rw [tab_101]; exact (List.mem_append_left _ (List.mem_append_left _ (List.mem_append_right _ (List.mem_of_getElem? h)))))
theorem ch101_2 {j : Nat} {r : Row} (h : tb101_2[j]? = some r) : rowAt 101 r.1 = some r := row_mem 101 (by decide) (by rw [tab_101]; exact (List.mem_append_left _ (List.mem_append_right _ (List.mem_of_getElem? h))))
theorem ch101_3 {j : Nat} {r : Row} (h : tb101_3[j]? = some r) : rowAt 101 r.1 = some r := row_mem 101 (by decide) (by rw [tab_101]; exact (List.mem_append_right _ (List.mem_of_getElem? h)))
theorem r101_0 : rowAt 101 0 = some (r0 0 1 (.aload_n 0)) := ch101_0 (j := 0) rfl
theorem r101_1 : rowAt 101 1 = some (ra 1 2 (.iload_n 2) 2 0 0) := ch101_0 (j := 1) rfl
theorem r101_2 : rowAt 101 2 = some (ra 2 5 (.invokevirtual 117) 102 2 1010) := ch101_0 (j := 2) rfl
theorem r101_5 : rowAt 101 5 = some (ra 5 8 (.ifCond .eq 11) 16 0 0) := ch101_0 (j := 3) rfl
theorem r101_8 : rowAt 101 8 = some (r0 8 9 (.aload_n 0)) := ch101_0 (j := 4) rfl
theorem r101_9 : rowAt 101 9 = some (ra 9 10 (.iload_n 3) 3 0 0) := ch101_0 (j := 5) rfl
theorem r101_10 : rowAt 101 10 = some (ra 10 13 (.invokevirtual 117) 102 2 1010) := ch101_0 (j := 6) rfl
theorem r101_13 : rowAt 101 13 = some (ra 13 16 (.ifCond .ne 9) 22 0 0) := ch101_0 (j := 7) rfl
theorem r101_16 : rowAt 101 16 = some (r0 16 17 (.aload_n 0)) := ch101_0 (j := 8) rfl
theorem r101_17 : rowAt 101 17 = some (17, 18, .iconst 1, 0, 0, 0, 1, 0) := ch101_0 (j := 9) rfl
theorem r101_18 : rowAt 101 18 = some (ra 18 21 (.invokevirtual 79) 93 2 976) := ch101_0 (j := 10) rfl
theorem r101_21 : rowAt 101 21 = some (r0 21 22 (.ireturn)) := ch101_0 (j := 11) rfl
theorem r101_22 : rowAt 101 22 = some (ra 22 23 (.iload_n 1) 1 0 0) := ch101_0 (j := 12) rfl
theorem r101_23 : rowAt 101 23 = some (ra 23 26 (.ifCond .lt 13) 36 0 0) := ch101_0 (j := 13) rfl
theorem r101_26 : rowAt 101 26 = some (ra 26 27 (.iload_n 1) 1 0 0) := ch101_0 (j := 14) rfl
theorem r101_27 : rowAt 101 27 = some (27, 29, .bipush 12, 0, 0, 0, 12, 0) := ch101_0 (j := 15) rfl
theorem r101_29 : rowAt 101 29 = some (ra 29 32 (.if_icmp .gt 7) 36 0 0) := ch101_0 (j := 16) rfl
theorem r101_32 : rowAt 101 32 = some (32, 33, .iconst 1, 0, 0, 0, 1, 0) := ch101_0 (j := 17) rfl
theorem r101_33 : rowAt 101 33 = some (ra 33 36 (.goto 4) 37 0 0) := ch101_0 (j := 18) rfl
theorem r101_36 : rowAt 101 36 = some (r0 36 37 (.iconst 0)) := ch101_0 (j := 19) rfl
theorem r101_37 : rowAt 101 37 = some (ra 37 39 (.istore 4) 4 0 0) := ch101_0 (j := 20) rfl
theorem r101_39 : rowAt 101 39 = some (ra 39 41 (.iload 4) 4 0 0) := ch101_0 (j := 21) rfl
theorem r101_41 : rowAt 101 41 = some (ra 41 44 (.ifCond .eq 63) 104 0 0) := ch101_0 (j := 22) rfl
theorem r101_44 : rowAt 101 44 = some (ra 44 45 (.iload_n 1) 1 0 0) := ch101_0 (j := 23) rfl
theorem r101_45 : rowAt 101 45 = some (45, 47, .bipush 8, 0, 0, 0, 8, 0) := ch101_0 (j := 24) rfl
theorem r101_47 : rowAt 101 47 = some (ra 47 50 (.if_icmp .ne 19) 66 0 0) := ch101_0 (j := 25) rfl
theorem r101_50 : rowAt 101 50 = some (r0 50 51 (.aload_n 0)) := ch101_0 (j := 26) rfl
theorem r101_51 : rowAt 101 51 = some (ra 51 52 (.iload_n 2) 2 0 0) := ch101_0 (j := 27) rfl
theorem r101_52 : rowAt 101 52 = some (ra 52 55 (.invokevirtual 111) 103 2 1014) := ch101_0 (j := 28) rfl
theorem r101_55 : rowAt 101 55 = some (ra 55 58 (.ifCond .eq 49) 104 0 0) := ch101_0 (j := 29) rfl
theorem r101_58 : rowAt 101 58 = some (r0 58 59 (.aload_n 0)) := ch101_0 (j := 30) rfl
theorem r101_59 : rowAt 101 59 = some (ra 59 60 (.iload_n 3) 3 0 0) := ch101_0 (j := 31) rfl
theorem r101_60 : rowAt 101 60 = some (ra 60 63 (.invokevirtual 111) 103 2 1014) := ch101_0 (j := 32) rfl
theorem r101_63 : rowAt 101 63 = some (ra 63 66 (.ifCond .eq 41) 104 0 0) := ch101_0 (j := 33) rfl
theorem r101_66 : rowAt 101 66 = some (ra 66 67 (.iload_n 1) 1 0 0) := ch101_0 (j := 34) rfl
theorem r101_67 : rowAt 101 67 = some (67, 69, .bipush 9, 0, 0, 0, 9, 0) := ch101_0 (j := 35) rfl
theorem r101_69 : rowAt 101 69 = some (ra 69 72 (.if_icmp .ne 14) 83 0 0) := ch101_0 (j := 36) rfl
theorem r101_72 : rowAt 101 72 = some (r0 72 73 (.aload_n 0)) := ch101_0 (j := 37) rfl
theorem r101_73 : rowAt 101 73 = some (ra 73 74 (.iload_n 3) 3 0 0) := ch101_0 (j := 38) rfl
theorem r101_74 : rowAt 101 74 = some (74, 77, .sipush 300, 0, 0, 0, 300, 0) := ch101_0 (j := 39) rfl
theorem r101_77 : rowAt 101 77 = some (ra 77 80 (.invokevirtual 120) 104 3 1018) := ch101_0 (j := 40) rfl
theorem r101_80 : rowAt 101 80 = some (ra 80 83 (.ifCond .eq 24) 104 0 0) := ch101_0 (j := 41) rfl
theorem r101_83 : rowAt 101 83 = some (ra 83 84 (.iload_n 1) 1 0 0) := ch101_0 (j := 42) rfl
theorem r101_84 : rowAt 101 84 = some (84, 86, .bipush 10, 0, 0, 0, 10, 0) := ch101_0 (j := 43) rfl
theorem r101_86 : rowAt 101 86 = some (ra 86 89 (.if_icmp .ne 14) 100 0 0) := ch101_0 (j := 44) rfl
theorem r101_89 : rowAt 101 89 = some (r0 89 90 (.aload_n 0)) := ch101_0 (j := 45) rfl
theorem r101_90 : rowAt 101 90 = some (ra 90 91 (.iload_n 3) 3 0 0) := ch101_0 (j := 46) rfl
theorem r101_91 : rowAt 101 91 = some (91, 94, .sipush 600, 0, 0, 0, 600, 0) := ch101_0 (j := 47) rfl
theorem r101_94 : rowAt 101 94 = some (ra 94 97 (.invokevirtual 120) 104 3 1018) := ch101_0 (j := 48) rfl
theorem r101_97 : rowAt 101 97 = some (ra 97 100 (.ifCond .eq 7) 104 0 0) := ch101_0 (j := 49) rfl
theorem r101_100 : rowAt 101 100 = some (100, 101, .iconst 1, 0, 0, 0, 1, 0) := ch101_0 (j := 50) rfl
theorem r101_101 : rowAt 101 101 = some (ra 101 104 (.goto 4) 105 0 0) := ch101_0 (j := 51) rfl
theorem r101_104 : rowAt 101 104 = some (r0 104 105 (.iconst 0)) := ch101_0 (j := 52) rfl
theorem r101_105 : rowAt 101 105 = some (ra 105 107 (.istore 4) 4 0 0) := ch101_0 (j := 53) rfl
theorem r101_107 : rowAt 101 107 = some (ra 107 109 (.iload 4) 4 0 0) := ch101_0 (j := 54) rfl
theorem r101_109 : rowAt 101 109 = some (ra 109 112 (.ifCond .ne 9) 118 0 0) := ch101_0 (j := 55) rfl
theorem r101_112 : rowAt 101 112 = some (r0 112 113 (.aload_n 0)) := ch101_0 (j := 56) rfl
theorem r101_113 : rowAt 101 113 = some (113, 114, .iconst 2, 0, 0, 0, 2, 0) := ch101_0 (j := 57) rfl
theorem r101_114 : rowAt 101 114 = some (ra 114 117 (.invokevirtual 79) 93 2 976) := ch101_0 (j := 58) rfl
theorem r101_117 : rowAt 101 117 = some (r0 117 118 (.ireturn)) := ch101_0 (j := 59) rfl
theorem r101_118 : rowAt 101 118 = some (ra 118 119 (.iload_n 1) 1 0 0) := ch101_1 (j := 0) rfl
theorem r101_119 : rowAt 101 119 = some (119, 120, .iconst 3, 0, 0, 0, 3, 0) := ch101_1 (j := 1) rfl
theorem r101_120 : rowAt 101 120 = some (ra 120 123 (.if_icmp .lt 18) 138 0 0) := ch101_1 (j := 2) rfl
theorem r101_123 : rowAt 101 123 = some (ra 123 124 (.iload_n 1) 1 0 0) := ch101_1 (j := 3) rfl
theorem r101_124 : rowAt 101 124 = some (124, 126, .bipush 7, 0, 0, 0, 7, 0) := ch101_1 (j := 4) rfl
theorem r101_126 : rowAt 101 126 = some (ra 126 129 (.if_icmp .gt 12) 138 0 0) := ch101_1 (j := 5) rfl
theorem r101_129 : rowAt 101 129 = some (r0 129 130 (.aload_n 0)) := ch101_1 (j := 6) rfl
theorem r101_130 : rowAt 101 130 = some (ra 130 133 (.getfield 7) 2 5 875) := ch101_1 (j := 7) rfl
theorem r101_133 : rowAt 101 133 = some (ra 133 134 (.iload_n 3) 3 0 0) := ch101_1 (j := 8) rfl
theorem r101_134 : rowAt 101 134 = some (r0 134 135 (.iaload)) := ch101_1 (j := 9) rfl
theorem r101_135 : rowAt 101 135 = some (ra 135 138 (.ifCond .eq 25) 160 0 0) := ch101_1 (j := 10) rfl
theorem r101_138 : rowAt 101 138 = some (ra 138 139 (.iload_n 1) 1 0 0) := ch101_1 (j := 11) rfl
theorem r101_139 : rowAt 101 139 = some (139, 141, .bipush 9, 0, 0, 0, 9, 0) := ch101_1 (j := 12) rfl
theorem r101_141 : rowAt 101 141 = some (ra 141 144 (.if_icmp .ne 25) 166 0 0) := ch101_1 (j := 13) rfl
theorem r101_144 : rowAt 101 144 = some (r0 144 145 (.aload_n 0)) := ch101_1 (j := 14) rfl
theorem r101_145 : rowAt 101 145 = some (ra 145 148 (.getfield 114) 5 5 878) := ch101_1 (j := 15) rfl
theorem r101_148 : rowAt 101 148 = some (ra 148 151 (.ifCond .ge 18) 166 0 0) := ch101_1 (j := 16) rfl
theorem r101_151 : rowAt 101 151 = some (r0 151 152 (.aload_n 0)) := ch101_1 (j := 17) rfl
theorem r101_152 : rowAt 101 152 = some (ra 152 155 (.getfield 7) 2 5 875) := ch101_1 (j := 18) rfl
theorem r101_155 : rowAt 101 155 = some (ra 155 156 (.iload_n 2) 2 0 0) := ch101_1 (j := 19) rfl
theorem r101_156 : rowAt 101 156 = some (r0 156 157 (.iaload)) := ch101_1 (j := 20) rfl
theorem r101_157 : rowAt 101 157 = some (ra 157 160 (.ifCond .ne 9) 166 0 0) := ch101_1 (j := 21) rfl
theorem r101_160 : rowAt 101 160 = some (r0 160 161 (.aload_n 0)) := ch101_1 (j := 22) rfl
theorem r101_161 : rowAt 101 161 = some (161, 162, .iconst 3, 0, 0, 0, 3, 0) := ch101_1 (j := 23) rfl
theorem r101_162 : rowAt 101 162 = some (ra 162 165 (.invokevirtual 79) 93 2 976) := ch101_1 (j := 24) rfl
theorem r101_165 : rowAt 101 165 = some (r0 165 166 (.ireturn)) := ch101_1 (j := 25) rfl
theorem r101_166 : rowAt 101 166 = some (ra 166 167 (.iload_n 1) 1 0 0) := ch101_1 (j := 26) rfl
theorem r101_167 : rowAt 101 167 = some (167, 169, .bipush 9, 0, 0, 0, 9, 0) := ch101_1 (j := 27) rfl
theorem r101_169 : rowAt 101 169 = some (ra 169 172 (.if_icmp .ne 13) 182 0 0) := ch101_1 (j := 28) rfl
theorem r101_172 : rowAt 101 172 = some (r0 172 173 (.aload_n 0)) := ch101_1 (j := 29) rfl
theorem r101_173 : rowAt 101 173 = some (ra 173 174 (.iload_n 2) 2 0 0) := ch101_1 (j := 30) rfl
theorem r101_174 : rowAt 101 174 = some (r0 174 175 (.aload_n 0)) := ch101_1 (j := 31) rfl
theorem r101_175 : rowAt 101 175 = some (ra 175 178 (.getfield 114) 5 5 878) := ch101_1 (j := 32) rfl
theorem r101_178 : rowAt 101 178 = some (ra 178 181 (.invokevirtual 124) 105 3 1022) := ch101_1 (j := 33) rfl
theorem r101_181 : rowAt 101 181 = some (r0 181 182 (.ireturn)) := ch101_1 (j := 34) rfl
theorem r101_182 : rowAt 101 182 = some (ra 182 183 (.iload_n 1) 1 0 0) := ch101_1 (j := 35) rfl
theorem r101_183 : rowAt 101 183 = some (183, 185, .bipush 11, 0, 0, 0, 11, 0) := ch101_1 (j := 36) rfl
theorem r101_185 : rowAt 101 185 = some (ra 185 188 (.if_icmp .lt 65) 250 0 0) := ch101_1 (j := 37) rfl
theorem r101_188 : rowAt 101 188 = some (r0 188 189 (.aload_n 0)) := ch101_1 (j := 38) rfl
theorem r101_189 : rowAt 101 189 = some (ra 189 190 (.iload_n 2) 2 0 0) := ch101_1 (j := 39) rfl
theorem r101_190 : rowAt 101 190 = some (ra 190 191 (.iload_n 3) 3 0 0) := ch101_1 (j := 40) rfl
theorem r101_191 : rowAt 101 191 = some (ra 191 194 (.invokevirtual 127) 109 3 1038) := ch101_1 (j := 41) rfl
theorem r101_194 : rowAt 101 194 = some (ra 194 197 (.ifCond .gt 7) 201 0 0) := ch101_1 (j := 42) rfl
theorem r101_197 : rowAt 101 197 = some (197, 198, .iconst 1, 0, 0, 0, 1, 0) := ch101_1 (j := 43) rfl
theorem r101_198 : rowAt 101 198 = some (ra 198 201 (.goto 4) 202 0 0) := ch101_1 (j := 44) rfl
theorem r101_201 : rowAt 101 201 = some (r0 201 202 (.iconst 0)) := ch101_1 (j := 45) rfl
theorem r101_202 : rowAt 101 202 = some (ra 202 203 (.iload_n 1) 1 0 0) := ch101_1 (j := 46) rfl
theorem r101_203 : rowAt 101 203 = some (203, 205, .bipush 11, 0, 0, 0, 11, 0) := ch101_1 (j := 47) rfl
theorem r101_205 : rowAt 101 205 = some (ra 205 208 (.if_icmp .ne 7) 212 0 0) := ch101_1 (j := 48) rfl
theorem r101_208 : rowAt 101 208 = some (208, 209, .iconst 1, 0, 0, 0, 1, 0) := ch101_1 (j := 49) rfl
theorem r101_209 : rowAt 101 209 = some (ra 209 212 (.goto 4) 213 0 0) := ch101_1 (j := 50) rfl
theorem r101_212 : rowAt 101 212 = some (r0 212 213 (.iconst 0)) := ch101_1 (j := 51) rfl
theorem r101_213 : rowAt 101 213 = some (ra 213 216 (.if_icmp .ne 7) 220 0 0) := ch101_1 (j := 52) rfl
theorem r101_216 : rowAt 101 216 = some (ra 216 217 (.iload_n 2) 2 0 0) := ch101_1 (j := 53) rfl
theorem r101_217 : rowAt 101 217 = some (ra 217 220 (.goto 4) 221 0 0) := ch101_1 (j := 54) rfl
theorem r101_220 : rowAt 101 220 = some (ra 220 221 (.iload_n 3) 3 0 0) := ch101_1 (j := 55) rfl
theorem r101_221 : rowAt 101 221 = some (ra 221 223 (.istore 5) 5 0 0) := ch101_1 (j := 56) rfl
theorem r101_223 : rowAt 101 223 = some (r0 223 224 (.aload_n 0)) := ch101_1 (j := 57) rfl
theorem r101_224 : rowAt 101 224 = some (ra 224 226 (.iload 5) 5 0 0) := ch101_1 (j := 58) rfl
theorem r101_226 : rowAt 101 226 = some (r0 226 227 (.iconst 0)) := ch101_1 (j := 59) rfl
theorem r101_227 : rowAt 101 227 = some (ra 227 230 (.invokevirtual 130) 106 3 1026) := ch101_2 (j := 0) rfl
theorem r101_230 : rowAt 101 230 = some (r0 230 231 (.aload_n 0)) := ch101_2 (j := 1) rfl
theorem r101_231 : rowAt 101 231 = some (ra 231 233 (.iload 5) 5 0 0) := ch101_2 (j := 2) rfl
theorem r101_233 : rowAt 101 233 = some (233, 234, .iconst 1, 0, 0, 0, 1, 0) := ch101_2 (j := 3) rfl
theorem r101_234 : rowAt 101 234 = some (ra 234 237 (.invokevirtual 133) 107 3 1030) := ch101_2 (j := 4) rfl
theorem r101_237 : rowAt 101 237 = some (r0 237 238 (.aload_n 0)) := ch101_2 (j := 5) rfl
theorem r101_238 : rowAt 101 238 = some (r0 238 239 (.aload_n 0)) := ch101_2 (j := 6) rfl
theorem r101_239 : rowAt 101 239 = some (ra 239 242 (.getfield 7) 2 5 875) := ch101_2 (j := 7) rfl
theorem r101_242 : rowAt 101 242 = some (ra 242 244 (.iload 5) 5 0 0) := ch101_2 (j := 8) rfl
theorem r101_244 : rowAt 101 244 = some (r0 244 245 (.iaload)) := ch101_2 (j := 9) rfl
theorem r101_245 : rowAt 101 245 = some (245, 246, .iconst 4, 0, 0, 0, 4, 0) := ch101_2 (j := 10) rfl
theorem r101_246 : rowAt 101 246 = some (ra 246 249 (.invokevirtual 86) 80 3 924) := ch101_2 (j := 11) rfl
theorem r101_249 : rowAt 101 249 = some (r0 249 250 (.ireturn)) := ch101_2 (j := 12) rfl
theorem r101_250 : rowAt 101 250 = some (ra 250 251 (.iload_n 1) 1 0 0) := ch101_2 (j := 13) rfl
theorem r101_251 : rowAt 101 251 = some (251, 253, .bipush 8, 0, 0, 0, 8, 0) := ch101_2 (j := 14) rfl
theorem r101_253 : rowAt 101 253 = some (ra 253 256 (.if_icmp .ne 41) 294 0 0) := ch101_2 (j := 15) rfl
theorem r101_256 : rowAt 101 256 = some (r0 256 257 (.aload_n 0)) := ch101_2 (j := 16) rfl
theorem r101_257 : rowAt 101 257 = some (ra 257 258 (.iload_n 2) 2 0 0) := ch101_2 (j := 17) rfl
theorem r101_258 : rowAt 101 258 = some (258, 259, .iconst 2, 0, 0, 0, 2, 0) := ch101_2 (j := 18) rfl
theorem r101_259 : rowAt 101 259 = some (ra 259 262 (.invokevirtual 130) 106 3 1026) := ch101_2 (j := 19) rfl
theorem r101_262 : rowAt 101 262 = some (r0 262 263 (.aload_n 0)) := ch101_2 (j := 20) rfl
theorem r101_263 : rowAt 101 263 = some (ra 263 264 (.iload_n 3) 3 0 0) := ch101_2 (j := 21) rfl
theorem r101_264 : rowAt 101 264 = some (264, 265, .iconst 3, 0, 0, 0, 3, 0) := ch101_2 (j := 22) rfl
theorem r101_265 : rowAt 101 265 = some (ra 265 268 (.invokevirtual 130) 106 3 1026) := ch101_2 (j := 23) rfl
theorem r101_268 : rowAt 101 268 = some (r0 268 269 (.aload_n 0)) := ch101_2 (j := 24) rfl
theorem r101_269 : rowAt 101 269 = some (269, 270, .iconst 2, 0, 0, 0, 2, 0) := ch101_2 (j := 25) rfl
theorem r101_270 : rowAt 101 270 = some (270, 271, .iconst 3, 0, 0, 0, 3, 0) := ch101_2 (j := 26) rfl
theorem r101_271 : rowAt 101 271 = some (ra 271 274 (.invokevirtual 72) 82 3 932) := ch101_2 (j := 27) rfl
theorem r101_274 : rowAt 101 274 = some (r0 274 275 (.aload_n 0)) := ch101_2 (j := 28) rfl
theorem r101_275 : rowAt 101 275 = some (275, 277, .bipush 14, 0, 0, 0, 14, 0) := ch101_2 (j := 29) rfl
theorem r101_277 : rowAt 101 277 = some (r0 277 278 (.iconst 0)) := ch101_2 (j := 30) rfl
theorem r101_278 : rowAt 101 278 = some (ra 278 281 (.invokevirtual 49) 83 3 936) := ch101_2 (j := 31) rfl
theorem r101_281 : rowAt 101 281 = some (r0 281 282 (.aload_n 0)) := ch101_2 (j := 32) rfl
theorem r101_282 : rowAt 101 282 = some (282, 283, .iconst 1, 0, 0, 0, 1, 0) := ch101_2 (j := 33) rfl
theorem r101_283 : rowAt 101 283 = some (283, 284, .lconst 1, 0, 0, 0, 0, 1) := ch101_2 (j := 34) rfl
theorem r101_284 : rowAt 101 284 = some (ra 284 287 (.invokevirtual 68) 78 3 915) := ch101_2 (j := 35) rfl
theorem r101_287 : rowAt 101 287 = some (r0 287 288 (.aload_n 0)) := ch101_2 (j := 36) rfl
theorem r101_288 : rowAt 101 288 = some (288, 289, .iconst 1, 0, 0, 0, 1, 0) := ch101_2 (j := 37) rfl
theorem r101_289 : rowAt 101 289 = some (289, 290, .iconst 4, 0, 0, 0, 4, 0) := ch101_2 (j := 38) rfl
theorem r101_290 : rowAt 101 290 = some (ra 290 293 (.invokevirtual 86) 80 3 924) := ch101_2 (j := 39) rfl
theorem r101_293 : rowAt 101 293 = some (r0 293 294 (.ireturn)) := ch101_2 (j := 40) rfl
theorem r101_294 : rowAt 101 294 = some (ra 294 295 (.iload_n 1) 1 0 0) := ch101_2 (j := 41) rfl
theorem r101_295 : rowAt 101 295 = some (295, 297, .bipush 10, 0, 0, 0, 10, 0) := ch101_2 (j := 42) rfl
theorem r101_297 : rowAt 101 297 = some (ra 297 300 (.if_icmp .ne 62) 359 0 0) := ch101_2 (j := 43) rfl
theorem r101_300 : rowAt 101 300 = some (r0 300 301 (.aload_n 0)) := ch101_2 (j := 44) rfl
theorem r101_301 : rowAt 101 301 = some (ra 301 302 (.iload_n 2) 2 0 0) := ch101_2 (j := 45) rfl
theorem r101_302 : rowAt 101 302 = some (r0 302 303 (.iconst 0)) := ch101_2 (j := 46) rfl
theorem r101_303 : rowAt 101 303 = some (ra 303 306 (.invokevirtual 130) 106 3 1026) := ch101_2 (j := 47) rfl
theorem r101_306 : rowAt 101 306 = some (r0 306 307 (.aload_n 0)) := ch101_2 (j := 48) rfl
theorem r101_307 : rowAt 101 307 = some (ra 307 308 (.iload_n 2) 2 0 0) := ch101_2 (j := 49) rfl
theorem r101_308 : rowAt 101 308 = some (308, 309, .iconst 1, 0, 0, 0, 1, 0) := ch101_2 (j := 50) rfl
theorem r101_309 : rowAt 101 309 = some (ra 309 312 (.invokevirtual 133) 107 3 1030) := ch101_2 (j := 51) rfl
theorem r101_312 : rowAt 101 312 = some (r0 312 313 (.aload_n 0)) := ch101_2 (j := 52) rfl
theorem r101_313 : rowAt 101 313 = some (r0 313 314 (.aload_n 0)) := ch101_2 (j := 53) rfl
theorem r101_314 : rowAt 101 314 = some (ra 314 317 (.getfield 114) 5 5 878) := ch101_2 (j := 54) rfl
theorem r101_317 : rowAt 101 317 = some (ra 317 320 (.ifCond .le 7) 324 0 0) := ch101_2 (j := 55) rfl
theorem r101_320 : rowAt 101 320 = some (r0 320 321 (.iconst 0)) := ch101_2 (j := 56) rfl
theorem r101_321 : rowAt 101 321 = some (ra 321 324 (.goto 4) 325 0 0) := ch101_2 (j := 57) rfl
theorem r101_324 : rowAt 101 324 = some (324, 325, .iconst 1, 0, 0, 0, 1, 0) := ch101_2 (j := 58) rfl
theorem r101_325 : rowAt 101 325 = some (r0 325 326 (.aload_n 0)) := ch101_2 (j := 59) rfl
theorem r101_326 : rowAt 101 326 = some (ra 326 329 (.getfield 114) 5 5 878) := ch101_3 (j := 0) rfl
theorem r101_329 : rowAt 101 329 = some (ra 329 332 (.ifCond .le 10) 339 0 0) := ch101_3 (j := 1) rfl
theorem r101_332 : rowAt 101 332 = some (r0 332 333 (.aload_n 0)) := ch101_3 (j := 2) rfl
theorem r101_333 : rowAt 101 333 = some (ra 333 336 (.getfield 114) 5 5 878) := ch101_3 (j := 3) rfl
theorem r101_336 : rowAt 101 336 = some (ra 336 339 (.goto 8) 344 0 0) := ch101_3 (j := 4) rfl
theorem r101_339 : rowAt 101 339 = some (r0 339 340 (.aload_n 0)) := ch101_3 (j := 5) rfl
theorem r101_340 : rowAt 101 340 = some (ra 340 343 (.getfield 114) 5 5 878) := ch101_3 (j := 6) rfl
theorem r101_343 : rowAt 101 343 = some (r0 343 344 (.ineg)) := ch101_3 (j := 7) rfl
theorem r101_344 : rowAt 101 344 = some (ra 344 347 (.invokevirtual 34) 89 3 960) := ch101_3 (j := 8) rfl
theorem r101_347 : rowAt 101 347 = some (r0 347 348 (.aload_n 0)) := ch101_3 (j := 9) rfl
theorem r101_348 : rowAt 101 348 = some (r0 348 349 (.aload_n 0)) := ch101_3 (j := 10) rfl
theorem r101_349 : rowAt 101 349 = some (ra 349 352 (.getfield 7) 2 5 875) := ch101_3 (j := 11) rfl
theorem r101_352 : rowAt 101 352 = some (ra 352 353 (.iload_n 2) 2 0 0) := ch101_3 (j := 12) rfl
theorem r101_353 : rowAt 101 353 = some (r0 353 354 (.iaload)) := ch101_3 (j := 13) rfl
theorem r101_354 : rowAt 101 354 = some (354, 355, .iconst 4, 0, 0, 0, 4, 0) := ch101_3 (j := 14) rfl
theorem r101_355 : rowAt 101 355 = some (ra 355 358 (.invokevirtual 86) 80 3 924) := ch101_3 (j := 15) rfl
theorem r101_358 : rowAt 101 358 = some (r0 358 359 (.ireturn)) := ch101_3 (j := 16) rfl
theorem r101_359 : rowAt 101 359 = some (r0 359 360 (.aload_n 0)) := ch101_3 (j := 17) rfl
theorem r101_360 : rowAt 101 360 = some (ra 360 361 (.iload_n 1) 1 0 0) := ch101_3 (j := 18) rfl
theorem r101_361 : rowAt 101 361 = some (ra 361 362 (.iload_n 2) 2 0 0) := ch101_3 (j := 19) rfl
theorem r101_362 : rowAt 101 362 = some (ra 362 363 (.iload_n 3) 3 0 0) := ch101_3 (j := 20) rfl
theorem r101_363 : rowAt 101 363 = some (ra 363 366 (.invokevirtual 136) 111 4 1046) := ch101_3 (j := 21) rfl
theorem r101_366 : rowAt 101 366 = some (r0 366 367 (.ireturn)) := ch101_3 (j := 22) rfl
theorem b101_0 {d : Nat} {q : Rs} {x0 : Nat} {x1 : Int32} {x2 : Int32} {x3 : Int32} {σ : St} {σ2 : St} {r : Int32} (h1 : x0 < 24 ∧ kls x0 = 5)
    (hy : Er d 102 (0, ent 102 [.ref x0, .int x2], [], σ) (.inl (some (.int r)), σ2, 0))
    (k : Er (d + 1) 101 (5, [some (.ref x0), some (.int x1), some (.int x2), some (.int x3), none, none], [.int r], σ2) q) :
    Er (d + 1) 101 (0, [some (.ref x0), some (.int x1), some (.int x2), some (.int x3), none, none], [], σ) q := Er.sT (c2 := (1, [some (.ref x0), some (.int x1), some (.int x2), some (.int x3), none, none], [.ref x0], σ)) r101_0 rfl rfl <| Er.sT (c2 := (2, [some (.ref x0), some (.int x1), some (.int x2), some (.int x3), none, none], [.int x2, .ref x0], σ)) r101_1 rfl rfl <| (Er.call (vs := [.ref x0, .int x2]) (rest := []) r101_2 rfl rfl (Nat.le_of_ble_eq_true rfl) (Nat.le_of_ble_eq_true rfl) (fun _ => ⟨_, _, rfl, h1⟩) hy k)
theorem b101_5 {d : Nat} {q : Rs} {x0 : Nat} {x1 : Int32} {x2 : Int32} {x3 : Int32} {s0 : Int32} {σ : St} 
    (kt : s0 = (0 : Int32) → Er (d + 1) 101 (16, [some (.ref x0), some (.int x1), some (.int x2), some (.int x3), none, none], [], σ) q)
    (kf : ¬ s0 = (0 : Int32) → Er (d + 1) 101 (8, [some (.ref x0), some (.int x1), some (.int x2), some (.int x3), none, none], [], σ) q) :
    Er (d + 1) 101 (5, [some (.ref x0), some (.int x1), some (.int x2), some (.int x3), none, none], [.int s0], σ) q := Er.sT (c2 := (brn .eq s0 (0 : Int32) 16 8, [some (.ref x0), some (.int x1), some (.int x2), some (.int x3), none, none], [], σ)) r101_5 rfl rfl <| (br_eq kt kf)
theorem b101_8 {d : Nat} {q : Rs} {x0 : Nat} {x1 : Int32} {x2 : Int32} {x3 : Int32} {σ : St} {σ2 : St} {r : Int32} (h1 : x0 < 24 ∧ kls x0 = 5)
    (hy : Er d 102 (0, ent 102 [.ref x0, .int x3], [], σ) (.inl (some (.int r)), σ2, 0))
    (k : Er (d + 1) 101 (13, [some (.ref x0), some (.int x1), some (.int x2), some (.int x3), none, none], [.int r], σ2) q) :
    Er (d + 1) 101 (8, [some (.ref x0), some (.int x1), some (.int x2), some (.int x3), none, none], [], σ) q := Er.sT (c2 := (9, [some (.ref x0), some (.int x1), some (.int x2), some (.int x3), none, none], [.ref x0], σ)) r101_8 rfl rfl <| Er.sT (c2 := (10, [some (.ref x0), some (.int x1), some (.int x2), some (.int x3), none, none], [.int x3, .ref x0], σ)) r101_9 rfl rfl <| (Er.call (vs := [.ref x0, .int x3]) (rest := []) r101_10 rfl rfl (Nat.le_of_ble_eq_true rfl) (Nat.le_of_ble_eq_true rfl) (fun _ => ⟨_, _, rfl, h1⟩) hy k)
theorem b101_13 {d : Nat} {q : Rs} {x0 : Nat} {x1 : Int32} {x2 : Int32} {x3 : Int32} {s0 : Int32} {σ : St} 
    (kt : ¬ s0 = (0 : Int32) → Er (d + 1) 101 (22, [some (.ref x0), some (.int x1), some (.int x2), some (.int x3), none, none], [], σ) q)
    (kf : s0 = (0 : Int32) → Er (d + 1) 101 (16, [some (.ref x0), some (.int x1), some (.int x2), some (.int x3), none, none], [], σ) q) :
    Er (d + 1) 101 (13, [some (.ref x0), some (.int x1), some (.int x2), some (.int x3), none, none], [.int s0], σ) q := Er.sT (c2 := (brn .ne s0 (0 : Int32) 22 16, [some (.ref x0), some (.int x1), some (.int x2), some (.int x3), none, none], [], σ)) r101_13 rfl rfl <| (br_ne kt kf)
theorem b101_16 {d : Nat} {q : Rs} {x0 : Nat} {x1 : Int32} {x2 : Int32} {x3 : Int32} {σ : St} {σ2 : St} {r : Int32} (h1 : x0 < 24 ∧ kls x0 = 5)
    (hy : Er d 93 (0, ent 93 [.ref x0, .int (1 : Int32)], [], σ) (.inl (some (.int r)), σ2, 0))
    (k : Er (d + 1) 101 (21, [some (.ref x0), some (.int x1), some (.int x2), some (.int x3), none, none], [.int r], σ2) q) :
    Er (d + 1) 101 (16, [some (.ref x0), some (.int x1), some (.int x2), some (.int x3), none, none], [], σ) q := Er.sT (c2 := (17, [some (.ref x0), some (.int x1), some (.int x2), some (.int x3), none, none], [.ref x0], σ)) r101_16 rfl rfl <| Er.sT (c2 := (18, [some (.ref x0), some (.int x1), some (.int x2), some (.int x3), none, none], [.int (1 : Int32), .ref x0], σ)) r101_17 rfl rfl <| (Er.call (vs := [.ref x0, .int (1 : Int32)]) (rest := []) r101_18 rfl rfl (Nat.le_of_ble_eq_true rfl) (Nat.le_of_ble_eq_true rfl) (fun _ => ⟨_, _, rfl, h1⟩) hy k)
theorem b101_21 {d : Nat} {x0 : Nat} {x1 : Int32} {x2 : Int32} {x3 : Int32} {s0 : Int32} {σ : St}  :
    Er (d + 1) 101 (21, [some (.ref x0), some (.int x1), some (.int x2), some (.int x3), none, none], [.int s0], σ) (.inl (some (.int s0)), σ, 0) := (Er.ret r101_21 rfl ⟨_, _, rfl, rfl, rfl, rfl⟩)
theorem b101_22 {d : Nat} {q : Rs} {x0 : Nat} {x1 : Int32} {x2 : Int32} {x3 : Int32} {σ : St} 
    (kt : x1 < (0 : Int32) → Er (d + 1) 101 (36, [some (.ref x0), some (.int x1), some (.int x2), some (.int x3), none, none], [], σ) q)
    (kf : ¬ x1 < (0 : Int32) → Er (d + 1) 101 (26, [some (.ref x0), some (.int x1), some (.int x2), some (.int x3), none, none], [], σ) q) :
    Er (d + 1) 101 (22, [some (.ref x0), some (.int x1), some (.int x2), some (.int x3), none, none], [], σ) q := Er.sT (c2 := (23, [some (.ref x0), some (.int x1), some (.int x2), some (.int x3), none, none], [.int x1], σ)) r101_22 rfl rfl <| Er.sT (c2 := (brn .lt x1 (0 : Int32) 36 26, [some (.ref x0), some (.int x1), some (.int x2), some (.int x3), none, none], [], σ)) r101_23 rfl rfl <| (br_lt kt kf)
theorem b101_26 {d : Nat} {q : Rs} {x0 : Nat} {x1 : Int32} {x2 : Int32} {x3 : Int32} {σ : St} 
    (kt : (12 : Int32) < x1 → Er (d + 1) 101 (36, [some (.ref x0), some (.int x1), some (.int x2), some (.int x3), none, none], [], σ) q)
    (kf : ¬ (12 : Int32) < x1 → Er (d + 1) 101 (32, [some (.ref x0), some (.int x1), some (.int x2), some (.int x3), none, none], [], σ) q) :
    Er (d + 1) 101 (26, [some (.ref x0), some (.int x1), some (.int x2), some (.int x3), none, none], [], σ) q := Er.sT (c2 := (27, [some (.ref x0), some (.int x1), some (.int x2), some (.int x3), none, none], [.int x1], σ)) r101_26 rfl rfl <| Er.sT (c2 := (29, [some (.ref x0), some (.int x1), some (.int x2), some (.int x3), none, none], [.int (12 : Int32), .int x1], σ)) r101_27 rfl rfl <| Er.sT (c2 := (brn .gt x1 (12 : Int32) 36 32, [some (.ref x0), some (.int x1), some (.int x2), some (.int x3), none, none], [], σ)) r101_29 rfl rfl <| (br_gt kt kf)
theorem b101_32 {d : Nat} {q : Rs} {x0 : Nat} {x1 : Int32} {x2 : Int32} {x3 : Int32} {σ : St} 
    (k : Er (d + 1) 101 (37, [some (.ref x0), some (.int x1), some (.int x2), some (.int x3), none, none], [.int (1 : Int32)], σ) q) :
    Er (d + 1) 101 (32, [some (.ref x0), some (.int x1), some (.int x2), some (.int x3), none, none], [], σ) q := Er.sT (c2 := (33, [some (.ref x0), some (.int x1), some (.int x2), some (.int x3), none, none], [.int (1 : Int32)], σ)) r101_32 rfl rfl <| Er.sT (c2 := (37, [some (.ref x0), some (.int x1), some (.int x2), some (.int x3), none, none], [.int (1 : Int32)], σ)) r101_33 rfl rfl <| k
theorem b101_36 {d : Nat} {q : Rs} {x0 : Nat} {x1 : Int32} {x2 : Int32} {x3 : Int32} {σ : St} 
    (k : Er (d + 1) 101 (37, [some (.ref x0), some (.int x1), some (.int x2), some (.int x3), none, none], [.int (0 : Int32)], σ) q) :
    Er (d + 1) 101 (36, [some (.ref x0), some (.int x1), some (.int x2), some (.int x3), none, none], [], σ) q := Er.sT (c2 := (37, [some (.ref x0), some (.int x1), some (.int x2), some (.int x3), none, none], [.int (0 : Int32)], σ)) r101_36 rfl rfl <| k
theorem b101_37 {d : Nat} {q : Rs} {x0 : Nat} {x1 : Int32} {x2 : Int32} {x3 : Int32} {s0 : Int32} {σ : St} 
    (kt : s0 = (0 : Int32) → Er (d + 1) 101 (104, [some (.ref x0), some (.int x1), some (.int x2), some (.int x3), some (.int s0), none], [], σ) q)
    (kf : ¬ s0 = (0 : Int32) → Er (d + 1) 101 (44, [some (.ref x0), some (.int x1), some (.int x2), some (.int x3), some (.int s0), none], [], σ) q) :
    Er (d + 1) 101 (37, [some (.ref x0), some (.int x1), some (.int x2), some (.int x3), none, none], [.int s0], σ) q := Er.sT (c2 := (39, [some (.ref x0), some (.int x1), some (.int x2), some (.int x3), some (.int s0), none], [], σ)) r101_37 rfl rfl <| Er.sT (c2 := (41, [some (.ref x0), some (.int x1), some (.int x2), some (.int x3), some (.int s0), none], [.int s0], σ)) r101_39 rfl rfl <| Er.sT (c2 := (brn .eq s0 (0 : Int32) 104 44, [some (.ref x0), some (.int x1), some (.int x2), some (.int x3), some (.int s0), none], [], σ)) r101_41 rfl rfl <| (br_eq kt kf)
theorem b101_44 {d : Nat} {q : Rs} {x0 : Nat} {x1 : Int32} {x2 : Int32} {x3 : Int32} {x4 : Int32} {σ : St} 
    (kt : ¬ x1 = (8 : Int32) → Er (d + 1) 101 (66, [some (.ref x0), some (.int x1), some (.int x2), some (.int x3), some (.int x4), none], [], σ) q)
    (kf : x1 = (8 : Int32) → Er (d + 1) 101 (50, [some (.ref x0), some (.int x1), some (.int x2), some (.int x3), some (.int x4), none], [], σ) q) :
    Er (d + 1) 101 (44, [some (.ref x0), some (.int x1), some (.int x2), some (.int x3), some (.int x4), none], [], σ) q := Er.sT (c2 := (45, [some (.ref x0), some (.int x1), some (.int x2), some (.int x3), some (.int x4), none], [.int x1], σ)) r101_44 rfl rfl <| Er.sT (c2 := (47, [some (.ref x0), some (.int x1), some (.int x2), some (.int x3), some (.int x4), none], [.int (8 : Int32), .int x1], σ)) r101_45 rfl rfl <| Er.sT (c2 := (brn .ne x1 (8 : Int32) 66 50, [some (.ref x0), some (.int x1), some (.int x2), some (.int x3), some (.int x4), none], [], σ)) r101_47 rfl rfl <| (br_ne kt kf)
theorem b101_50 {d : Nat} {q : Rs} {x0 : Nat} {x1 : Int32} {x2 : Int32} {x3 : Int32} {x4 : Int32} {σ : St} {σ2 : St} {r : Int32} (h1 : x0 < 24 ∧ kls x0 = 5)
    (hy : Er d 103 (0, ent 103 [.ref x0, .int x2], [], σ) (.inl (some (.int r)), σ2, 0))
    (k : Er (d + 1) 101 (55, [some (.ref x0), some (.int x1), some (.int x2), some (.int x3), some (.int x4), none], [.int r], σ2) q) :
    Er (d + 1) 101 (50, [some (.ref x0), some (.int x1), some (.int x2), some (.int x3), some (.int x4), none], [], σ) q := Er.sT (c2 := (51, [some (.ref x0), some (.int x1), some (.int x2), some (.int x3), some (.int x4), none], [.ref x0], σ)) r101_50 rfl rfl <| Er.sT (c2 := (52, [some (.ref x0), some (.int x1), some (.int x2), some (.int x3), some (.int x4), none], [.int x2, .ref x0], σ)) r101_51 rfl rfl <| (Er.call (vs := [.ref x0, .int x2]) (rest := []) r101_52 rfl rfl (Nat.le_of_ble_eq_true rfl) (Nat.le_of_ble_eq_true rfl) (fun _ => ⟨_, _, rfl, h1⟩) hy k)
theorem b101_55 {d : Nat} {q : Rs} {x0 : Nat} {x1 : Int32} {x2 : Int32} {x3 : Int32} {x4 : Int32} {s0 : Int32} {σ : St} 
    (kt : s0 = (0 : Int32) → Er (d + 1) 101 (104, [some (.ref x0), some (.int x1), some (.int x2), some (.int x3), some (.int x4), none], [], σ) q)
    (kf : ¬ s0 = (0 : Int32) → Er (d + 1) 101 (58, [some (.ref x0), some (.int x1), some (.int x2), some (.int x3), some (.int x4), none], [], σ) q) :
    Er (d + 1) 101 (55, [some (.ref x0), some (.int x1), some (.int x2), some (.int x3), some (.int x4), none], [.int s0], σ) q := Er.sT (c2 := (brn .eq s0 (0 : Int32) 104 58, [some (.ref x0), some (.int x1), some (.int x2), some (.int x3), some (.int x4), none], [], σ)) r101_55 rfl rfl <| (br_eq kt kf)
theorem b101_58 {d : Nat} {q : Rs} {x0 : Nat} {x1 : Int32} {x2 : Int32} {x3 : Int32} {x4 : Int32} {σ : St} {σ2 : St} {r : Int32} (h1 : x0 < 24 ∧ kls x0 = 5)
    (hy : Er d 103 (0, ent 103 [.ref x0, .int x3], [], σ) (.inl (some (.int r)), σ2, 0))
    (k : Er (d + 1) 101 (63, [some (.ref x0), some (.int x1), some (.int x2), some (.int x3), some (.int x4), none], [.int r], σ2) q) :
    Er (d + 1) 101 (58, [some (.ref x0), some (.int x1), some (.int x2), some (.int x3), some (.int x4), none], [], σ) q := Er.sT (c2 := (59, [some (.ref x0), some (.int x1), some (.int x2), some (.int x3), some (.int x4), none], [.ref x0], σ)) r101_58 rfl rfl <| Er.sT (c2 := (60, [some (.ref x0), some (.int x1), some (.int x2), some (.int x3), some (.int x4), none], [.int x3, .ref x0], σ)) r101_59 rfl rfl <| (Er.call (vs := [.ref x0, .int x3]) (rest := []) r101_60 rfl rfl (Nat.le_of_ble_eq_true rfl) (Nat.le_of_ble_eq_true rfl) (fun _ => ⟨_, _, rfl, h1⟩) hy k)
theorem b101_63 {d : Nat} {q : Rs} {x0 : Nat} {x1 : Int32} {x2 : Int32} {x3 : Int32} {x4 : Int32} {s0 : Int32} {σ : St} 
    (kt : s0 = (0 : Int32) → Er (d + 1) 101 (104, [some (.ref x0), some (.int x1), some (.int x2), some (.int x3), some (.int x4), none], [], σ) q)
    (kf : ¬ s0 = (0 : Int32) → Er (d + 1) 101 (66, [some (.ref x0), some (.int x1), some (.int x2), some (.int x3), some (.int x4), none], [], σ) q) :
    Er (d + 1) 101 (63, [some (.ref x0), some (.int x1), some (.int x2), some (.int x3), some (.int x4), none], [.int s0], σ) q := Er.sT (c2 := (brn .eq s0 (0 : Int32) 104 66, [some (.ref x0), some (.int x1), some (.int x2), some (.int x3), some (.int x4), none], [], σ)) r101_63 rfl rfl <| (br_eq kt kf)
theorem b101_66 {d : Nat} {q : Rs} {x0 : Nat} {x1 : Int32} {x2 : Int32} {x3 : Int32} {x4 : Int32} {σ : St} 
    (kt : ¬ x1 = (9 : Int32) → Er (d + 1) 101 (83, [some (.ref x0), some (.int x1), some (.int x2), some (.int x3), some (.int x4), none], [], σ) q)
    (kf : x1 = (9 : Int32) → Er (d + 1) 101 (72, [some (.ref x0), some (.int x1), some (.int x2), some (.int x3), some (.int x4), none], [], σ) q) :
    Er (d + 1) 101 (66, [some (.ref x0), some (.int x1), some (.int x2), some (.int x3), some (.int x4), none], [], σ) q := Er.sT (c2 := (67, [some (.ref x0), some (.int x1), some (.int x2), some (.int x3), some (.int x4), none], [.int x1], σ)) r101_66 rfl rfl <| Er.sT (c2 := (69, [some (.ref x0), some (.int x1), some (.int x2), some (.int x3), some (.int x4), none], [.int (9 : Int32), .int x1], σ)) r101_67 rfl rfl <| Er.sT (c2 := (brn .ne x1 (9 : Int32) 83 72, [some (.ref x0), some (.int x1), some (.int x2), some (.int x3), some (.int x4), none], [], σ)) r101_69 rfl rfl <| (br_ne kt kf)
theorem b101_72 {d : Nat} {q : Rs} {x0 : Nat} {x1 : Int32} {x2 : Int32} {x3 : Int32} {x4 : Int32} {σ : St} {σ2 : St} {r : Int32} (h1 : x0 < 24 ∧ kls x0 = 5)
    (hy : Er d 104 (0, ent 104 [.ref x0, .int x3, .int (300 : Int32)], [], σ) (.inl (some (.int r)), σ2, 0))
    (k : Er (d + 1) 101 (80, [some (.ref x0), some (.int x1), some (.int x2), some (.int x3), some (.int x4), none], [.int r], σ2) q) :
    Er (d + 1) 101 (72, [some (.ref x0), some (.int x1), some (.int x2), some (.int x3), some (.int x4), none], [], σ) q := Er.sT (c2 := (73, [some (.ref x0), some (.int x1), some (.int x2), some (.int x3), some (.int x4), none], [.ref x0], σ)) r101_72 rfl rfl <| Er.sT (c2 := (74, [some (.ref x0), some (.int x1), some (.int x2), some (.int x3), some (.int x4), none], [.int x3, .ref x0], σ)) r101_73 rfl rfl <| Er.sT (c2 := (77, [some (.ref x0), some (.int x1), some (.int x2), some (.int x3), some (.int x4), none], [.int (300 : Int32), .int x3, .ref x0], σ)) r101_74 rfl rfl <| (Er.call (vs := [.ref x0, .int x3, .int (300 : Int32)]) (rest := []) r101_77 rfl rfl (Nat.le_of_ble_eq_true rfl) (Nat.le_of_ble_eq_true rfl) (fun _ => ⟨_, _, rfl, h1⟩) hy k)
theorem b101_80 {d : Nat} {q : Rs} {x0 : Nat} {x1 : Int32} {x2 : Int32} {x3 : Int32} {x4 : Int32} {s0 : Int32} {σ : St} 
    (kt : s0 = (0 : Int32) → Er (d + 1) 101 (104, [some (.ref x0), some (.int x1), some (.int x2), some (.int x3), some (.int x4), none], [], σ) q)
    (kf : ¬ s0 = (0 : Int32) → Er (d + 1) 101 (83, [some (.ref x0), some (.int x1), some (.int x2), some (.int x3), some (.int x4), none], [], σ) q) :
    Er (d + 1) 101 (80, [some (.ref x0), some (.int x1), some (.int x2), some (.int x3), some (.int x4), none], [.int s0], σ) q := Er.sT (c2 := (brn .eq s0 (0 : Int32) 104 83, [some (.ref x0), some (.int x1), some (.int x2), some (.int x3), some (.int x4), none], [], σ)) r101_80 rfl rfl <| (br_eq kt kf)
theorem b101_83 {d : Nat} {q : Rs} {x0 : Nat} {x1 : Int32} {x2 : Int32} {x3 : Int32} {x4 : Int32} {σ : St} 
    (kt : ¬ x1 = (10 : Int32) → Er (d + 1) 101 (100, [some (.ref x0), some (.int x1), some (.int x2), some (.int x3), some (.int x4), none], [], σ) q)
    (kf : x1 = (10 : Int32) → Er (d + 1) 101 (89, [some (.ref x0), some (.int x1), some (.int x2), some (.int x3), some (.int x4), none], [], σ) q) :
    Er (d + 1) 101 (83, [some (.ref x0), some (.int x1), some (.int x2), some (.int x3), some (.int x4), none], [], σ) q := Er.sT (c2 := (84, [some (.ref x0), some (.int x1), some (.int x2), some (.int x3), some (.int x4), none], [.int x1], σ)) r101_83 rfl rfl <| Er.sT (c2 := (86, [some (.ref x0), some (.int x1), some (.int x2), some (.int x3), some (.int x4), none], [.int (10 : Int32), .int x1], σ)) r101_84 rfl rfl <| Er.sT (c2 := (brn .ne x1 (10 : Int32) 100 89, [some (.ref x0), some (.int x1), some (.int x2), some (.int x3), some (.int x4), none], [], σ)) r101_86 rfl rfl <| (br_ne kt kf)
theorem b101_89 {d : Nat} {q : Rs} {x0 : Nat} {x1 : Int32} {x2 : Int32} {x3 : Int32} {x4 : Int32} {σ : St} {σ2 : St} {r : Int32} (h1 : x0 < 24 ∧ kls x0 = 5)
    (hy : Er d 104 (0, ent 104 [.ref x0, .int x3, .int (600 : Int32)], [], σ) (.inl (some (.int r)), σ2, 0))
    (k : Er (d + 1) 101 (97, [some (.ref x0), some (.int x1), some (.int x2), some (.int x3), some (.int x4), none], [.int r], σ2) q) :
    Er (d + 1) 101 (89, [some (.ref x0), some (.int x1), some (.int x2), some (.int x3), some (.int x4), none], [], σ) q := Er.sT (c2 := (90, [some (.ref x0), some (.int x1), some (.int x2), some (.int x3), some (.int x4), none], [.ref x0], σ)) r101_89 rfl rfl <| Er.sT (c2 := (91, [some (.ref x0), some (.int x1), some (.int x2), some (.int x3), some (.int x4), none], [.int x3, .ref x0], σ)) r101_90 rfl rfl <| Er.sT (c2 := (94, [some (.ref x0), some (.int x1), some (.int x2), some (.int x3), some (.int x4), none], [.int (600 : Int32), .int x3, .ref x0], σ)) r101_91 rfl rfl <| (Er.call (vs := [.ref x0, .int x3, .int (600 : Int32)]) (rest := []) r101_94 rfl rfl (Nat.le_of_ble_eq_true rfl) (Nat.le_of_ble_eq_true rfl) (fun _ => ⟨_, _, rfl, h1⟩) hy k)
theorem b101_97 {d : Nat} {q : Rs} {x0 : Nat} {x1 : Int32} {x2 : Int32} {x3 : Int32} {x4 : Int32} {s0 : Int32} {σ : St} 
    (kt : s0 = (0 : Int32) → Er (d + 1) 101 (104, [some (.ref x0), some (.int x1), some (.int x2), some (.int x3), some (.int x4), none], [], σ) q)
    (kf : ¬ s0 = (0 : Int32) → Er (d + 1) 101 (100, [some (.ref x0), some (.int x1), some (.int x2), some (.int x3), some (.int x4), none], [], σ) q) :
    Er (d + 1) 101 (97, [some (.ref x0), some (.int x1), some (.int x2), some (.int x3), some (.int x4), none], [.int s0], σ) q := Er.sT (c2 := (brn .eq s0 (0 : Int32) 104 100, [some (.ref x0), some (.int x1), some (.int x2), some (.int x3), some (.int x4), none], [], σ)) r101_97 rfl rfl <| (br_eq kt kf)
theorem b101_100 {d : Nat} {q : Rs} {x0 : Nat} {x1 : Int32} {x2 : Int32} {x3 : Int32} {x4 : Int32} {σ : St} 
    (k : Er (d + 1) 101 (105, [some (.ref x0), some (.int x1), some (.int x2), some (.int x3), some (.int x4), none], [.int (1 : Int32)], σ) q) :
    Er (d + 1) 101 (100, [some (.ref x0), some (.int x1), some (.int x2), some (.int x3), some (.int x4), none], [], σ) q := Er.sT (c2 := (101, [some (.ref x0), some (.int x1), some (.int x2), some (.int x3), some (.int x4), none], [.int (1 : Int32)], σ)) r101_100 rfl rfl <| Er.sT (c2 := (105, [some (.ref x0), some (.int x1), some (.int x2), some (.int x3), some (.int x4), none], [.int (1 : Int32)], σ)) r101_101 rfl rfl <| k
theorem b101_104 {d : Nat} {q : Rs} {x0 : Nat} {x1 : Int32} {x2 : Int32} {x3 : Int32} {x4 : Int32} {σ : St} 
    (k : Er (d + 1) 101 (105, [some (.ref x0), some (.int x1), some (.int x2), some (.int x3), some (.int x4), none], [.int (0 : Int32)], σ) q) :
    Er (d + 1) 101 (104, [some (.ref x0), some (.int x1), some (.int x2), some (.int x3), some (.int x4), none], [], σ) q := Er.sT (c2 := (105, [some (.ref x0), some (.int x1), some (.int x2), some (.int x3), some (.int x4), none], [.int (0 : Int32)], σ)) r101_104 rfl rfl <| k
theorem b101_105 {d : Nat} {q : Rs} {x0 : Nat} {x1 : Int32} {x2 : Int32} {x3 : Int32} {x4 : Int32} {s0 : Int32} {σ : St} 
    (kt : ¬ s0 = (0 : Int32) → Er (d + 1) 101 (118, [some (.ref x0), some (.int x1), some (.int x2), some (.int x3), some (.int s0), none], [], σ) q)
    (kf : s0 = (0 : Int32) → Er (d + 1) 101 (112, [some (.ref x0), some (.int x1), some (.int x2), some (.int x3), some (.int s0), none], [], σ) q) :
    Er (d + 1) 101 (105, [some (.ref x0), some (.int x1), some (.int x2), some (.int x3), some (.int x4), none], [.int s0], σ) q := Er.sT (c2 := (107, [some (.ref x0), some (.int x1), some (.int x2), some (.int x3), some (.int s0), none], [], σ)) r101_105 rfl rfl <| Er.sT (c2 := (109, [some (.ref x0), some (.int x1), some (.int x2), some (.int x3), some (.int s0), none], [.int s0], σ)) r101_107 rfl rfl <| Er.sT (c2 := (brn .ne s0 (0 : Int32) 118 112, [some (.ref x0), some (.int x1), some (.int x2), some (.int x3), some (.int s0), none], [], σ)) r101_109 rfl rfl <| (br_ne kt kf)
theorem b101_112 {d : Nat} {q : Rs} {x0 : Nat} {x1 : Int32} {x2 : Int32} {x3 : Int32} {x4 : Int32} {σ : St} {σ2 : St} {r : Int32} (h1 : x0 < 24 ∧ kls x0 = 5)
    (hy : Er d 93 (0, ent 93 [.ref x0, .int (2 : Int32)], [], σ) (.inl (some (.int r)), σ2, 0))
    (k : Er (d + 1) 101 (117, [some (.ref x0), some (.int x1), some (.int x2), some (.int x3), some (.int x4), none], [.int r], σ2) q) :
    Er (d + 1) 101 (112, [some (.ref x0), some (.int x1), some (.int x2), some (.int x3), some (.int x4), none], [], σ) q := Er.sT (c2 := (113, [some (.ref x0), some (.int x1), some (.int x2), some (.int x3), some (.int x4), none], [.ref x0], σ)) r101_112 rfl rfl <| Er.sT (c2 := (114, [some (.ref x0), some (.int x1), some (.int x2), some (.int x3), some (.int x4), none], [.int (2 : Int32), .ref x0], σ)) r101_113 rfl rfl <| (Er.call (vs := [.ref x0, .int (2 : Int32)]) (rest := []) r101_114 rfl rfl (Nat.le_of_ble_eq_true rfl) (Nat.le_of_ble_eq_true rfl) (fun _ => ⟨_, _, rfl, h1⟩) hy k)
theorem b101_117 {d : Nat} {x0 : Nat} {x1 : Int32} {x2 : Int32} {x3 : Int32} {x4 : Int32} {s0 : Int32} {σ : St}  :
    Er (d + 1) 101 (117, [some (.ref x0), some (.int x1), some (.int x2), some (.int x3), some (.int x4), none], [.int s0], σ) (.inl (some (.int s0)), σ, 0) := (Er.ret r101_117 rfl ⟨_, _, rfl, rfl, rfl, rfl⟩)
theorem b101_118 {d : Nat} {q : Rs} {x0 : Nat} {x1 : Int32} {x2 : Int32} {x3 : Int32} {x4 : Int32} {σ : St} 
    (kt : x1 < (3 : Int32) → Er (d + 1) 101 (138, [some (.ref x0), some (.int x1), some (.int x2), some (.int x3), some (.int x4), none], [], σ) q)
    (kf : ¬ x1 < (3 : Int32) → Er (d + 1) 101 (123, [some (.ref x0), some (.int x1), some (.int x2), some (.int x3), some (.int x4), none], [], σ) q) :
    Er (d + 1) 101 (118, [some (.ref x0), some (.int x1), some (.int x2), some (.int x3), some (.int x4), none], [], σ) q := Er.sT (c2 := (119, [some (.ref x0), some (.int x1), some (.int x2), some (.int x3), some (.int x4), none], [.int x1], σ)) r101_118 rfl rfl <| Er.sT (c2 := (120, [some (.ref x0), some (.int x1), some (.int x2), some (.int x3), some (.int x4), none], [.int (3 : Int32), .int x1], σ)) r101_119 rfl rfl <| Er.sT (c2 := (brn .lt x1 (3 : Int32) 138 123, [some (.ref x0), some (.int x1), some (.int x2), some (.int x3), some (.int x4), none], [], σ)) r101_120 rfl rfl <| (br_lt kt kf)
theorem b101_123 {d : Nat} {q : Rs} {x0 : Nat} {x1 : Int32} {x2 : Int32} {x3 : Int32} {x4 : Int32} {σ : St} 
    (kt : (7 : Int32) < x1 → Er (d + 1) 101 (138, [some (.ref x0), some (.int x1), some (.int x2), some (.int x3), some (.int x4), none], [], σ) q)
    (kf : ¬ (7 : Int32) < x1 → Er (d + 1) 101 (129, [some (.ref x0), some (.int x1), some (.int x2), some (.int x3), some (.int x4), none], [], σ) q) :
    Er (d + 1) 101 (123, [some (.ref x0), some (.int x1), some (.int x2), some (.int x3), some (.int x4), none], [], σ) q := Er.sT (c2 := (124, [some (.ref x0), some (.int x1), some (.int x2), some (.int x3), some (.int x4), none], [.int x1], σ)) r101_123 rfl rfl <| Er.sT (c2 := (126, [some (.ref x0), some (.int x1), some (.int x2), some (.int x3), some (.int x4), none], [.int (7 : Int32), .int x1], σ)) r101_124 rfl rfl <| Er.sT (c2 := (brn .gt x1 (7 : Int32) 138 129, [some (.ref x0), some (.int x1), some (.int x2), some (.int x3), some (.int x4), none], [], σ)) r101_126 rfl rfl <| (br_gt kt kf)
theorem b101_129 {d : Nat} {q : Rs} {x0 : Nat} {x1 : Int32} {x2 : Int32} {x3 : Int32} {x4 : Int32} {σ : St} (h1 : x0 < 24 ∧ kls x0 = 5) (h2 : ¬ (fr x0 2) = 48) (h3 : ((fr x0 2) = 41 ∨ (fr x0 2) = 42) ∧ vp_in x3 (ale (fr x0 2)))
    (kt : (gai σ (fr x0 2) x3.toNatClampNeg) = (0 : Int32) → Er (d + 1) 101 (160, [some (.ref x0), some (.int x1), some (.int x2), some (.int x3), some (.int x4), none], [], σ) q)
    (kf : ¬ (gai σ (fr x0 2) x3.toNatClampNeg) = (0 : Int32) → Er (d + 1) 101 (138, [some (.ref x0), some (.int x1), some (.int x2), some (.int x3), some (.int x4), none], [], σ) q) :
    Er (d + 1) 101 (129, [some (.ref x0), some (.int x1), some (.int x2), some (.int x3), some (.int x4), none], [], σ) q := Er.sT (c2 := (130, [some (.ref x0), some (.int x1), some (.int x2), some (.int x3), some (.int x4), none], [.ref x0], σ)) r101_129 rfl rfl <| Er.st (P := (x0 < 24 ∧ kls x0 = 5)) (c2 := (133, [some (.ref x0), some (.int x1), some (.int x2), some (.int x3), some (.int x4), none], [.ref (fr x0 2)], σ)) r101_130 rfl rfl h1 <| Er.sT (c2 := (134, [some (.ref x0), some (.int x1), some (.int x2), some (.int x3), some (.int x4), none], [.int x3, .ref (fr x0 2)], σ)) r101_133 rfl rfl <| Er.st (P := (((fr x0 2) = 41 ∨ (fr x0 2) = 42) ∧ vp_in x3 (ale (fr x0 2)))) (c2 := (135, [some (.ref x0), some (.int x1), some (.int x2), some (.int x3), some (.int x4), none], [.int (gai σ (fr x0 2) x3.toNatClampNeg)], σ)) r101_134 rfl (if_neg h2) h3 <| Er.sT (c2 := (brn .eq (gai σ (fr x0 2) x3.toNatClampNeg) (0 : Int32) 160 138, [some (.ref x0), some (.int x1), some (.int x2), some (.int x3), some (.int x4), none], [], σ)) r101_135 rfl rfl <| (br_eq kt kf)
theorem b101_138 {d : Nat} {q : Rs} {x0 : Nat} {x1 : Int32} {x2 : Int32} {x3 : Int32} {x4 : Int32} {σ : St} 
    (kt : ¬ x1 = (9 : Int32) → Er (d + 1) 101 (166, [some (.ref x0), some (.int x1), some (.int x2), some (.int x3), some (.int x4), none], [], σ) q)
    (kf : x1 = (9 : Int32) → Er (d + 1) 101 (144, [some (.ref x0), some (.int x1), some (.int x2), some (.int x3), some (.int x4), none], [], σ) q) :
    Er (d + 1) 101 (138, [some (.ref x0), some (.int x1), some (.int x2), some (.int x3), some (.int x4), none], [], σ) q := Er.sT (c2 := (139, [some (.ref x0), some (.int x1), some (.int x2), some (.int x3), some (.int x4), none], [.int x1], σ)) r101_138 rfl rfl <| Er.sT (c2 := (141, [some (.ref x0), some (.int x1), some (.int x2), some (.int x3), some (.int x4), none], [.int (9 : Int32), .int x1], σ)) r101_139 rfl rfl <| Er.sT (c2 := (brn .ne x1 (9 : Int32) 166 144, [some (.ref x0), some (.int x1), some (.int x2), some (.int x3), some (.int x4), none], [], σ)) r101_141 rfl rfl <| (br_ne kt kf)
theorem b101_144 {d : Nat} {q : Rs} {x0 : Nat} {x1 : Int32} {x2 : Int32} {x3 : Int32} {x4 : Int32} {σ : St} (h1 : x0 < 24 ∧ kls x0 = 5)
    (kt : (0 : Int32) ≤ (gfi σ x0 5) → Er (d + 1) 101 (166, [some (.ref x0), some (.int x1), some (.int x2), some (.int x3), some (.int x4), none], [], σ) q)
    (kf : ¬ (0 : Int32) ≤ (gfi σ x0 5) → Er (d + 1) 101 (151, [some (.ref x0), some (.int x1), some (.int x2), some (.int x3), some (.int x4), none], [], σ) q) :
    Er (d + 1) 101 (144, [some (.ref x0), some (.int x1), some (.int x2), some (.int x3), some (.int x4), none], [], σ) q := Er.sT (c2 := (145, [some (.ref x0), some (.int x1), some (.int x2), some (.int x3), some (.int x4), none], [.ref x0], σ)) r101_144 rfl rfl <| Er.st (P := (x0 < 24 ∧ kls x0 = 5)) (c2 := (148, [some (.ref x0), some (.int x1), some (.int x2), some (.int x3), some (.int x4), none], [.int (gfi σ x0 5)], σ)) r101_145 rfl rfl h1 <| Er.sT (c2 := (brn .ge (gfi σ x0 5) (0 : Int32) 166 151, [some (.ref x0), some (.int x1), some (.int x2), some (.int x3), some (.int x4), none], [], σ)) r101_148 rfl rfl <| (br_ge kt kf)
theorem b101_151 {d : Nat} {q : Rs} {x0 : Nat} {x1 : Int32} {x2 : Int32} {x3 : Int32} {x4 : Int32} {σ : St} (h1 : x0 < 24 ∧ kls x0 = 5) (h2 : ¬ (fr x0 2) = 48) (h3 : ((fr x0 2) = 41 ∨ (fr x0 2) = 42) ∧ vp_in x2 (ale (fr x0 2)))
    (kt : ¬ (gai σ (fr x0 2) x2.toNatClampNeg) = (0 : Int32) → Er (d + 1) 101 (166, [some (.ref x0), some (.int x1), some (.int x2), some (.int x3), some (.int x4), none], [], σ) q)
    (kf : (gai σ (fr x0 2) x2.toNatClampNeg) = (0 : Int32) → Er (d + 1) 101 (160, [some (.ref x0), some (.int x1), some (.int x2), some (.int x3), some (.int x4), none], [], σ) q) :
    Er (d + 1) 101 (151, [some (.ref x0), some (.int x1), some (.int x2), some (.int x3), some (.int x4), none], [], σ) q := Er.sT (c2 := (152, [some (.ref x0), some (.int x1), some (.int x2), some (.int x3), some (.int x4), none], [.ref x0], σ)) r101_151 rfl rfl <| Er.st (P := (x0 < 24 ∧ kls x0 = 5)) (c2 := (155, [some (.ref x0), some (.int x1), some (.int x2), some (.int x3), some (.int x4), none], [.ref (fr x0 2)], σ)) r101_152 rfl rfl h1 <| Er.sT (c2 := (156, [some (.ref x0), some (.int x1), some (.int x2), some (.int x3), some (.int x4), none], [.int x2, .ref (fr x0 2)], σ)) r101_155 rfl rfl <| Er.st (P := (((fr x0 2) = 41 ∨ (fr x0 2) = 42) ∧ vp_in x2 (ale (fr x0 2)))) (c2 := (157, [some (.ref x0), some (.int x1), some (.int x2), some (.int x3), some (.int x4), none], [.int (gai σ (fr x0 2) x2.toNatClampNeg)], σ)) r101_156 rfl (if_neg h2) h3 <| Er.sT (c2 := (brn .ne (gai σ (fr x0 2) x2.toNatClampNeg) (0 : Int32) 166 160, [some (.ref x0), some (.int x1), some (.int x2), some (.int x3), some (.int x4), none], [], σ)) r101_157 rfl rfl <| (br_ne kt kf)
theorem b101_160 {d : Nat} {q : Rs} {x0 : Nat} {x1 : Int32} {x2 : Int32} {x3 : Int32} {x4 : Int32} {σ : St} {σ2 : St} {r : Int32} (h1 : x0 < 24 ∧ kls x0 = 5)
    (hy : Er d 93 (0, ent 93 [.ref x0, .int (3 : Int32)], [], σ) (.inl (some (.int r)), σ2, 0))
    (k : Er (d + 1) 101 (165, [some (.ref x0), some (.int x1), some (.int x2), some (.int x3), some (.int x4), none], [.int r], σ2) q) :
    Er (d + 1) 101 (160, [some (.ref x0), some (.int x1), some (.int x2), some (.int x3), some (.int x4), none], [], σ) q := Er.sT (c2 := (161, [some (.ref x0), some (.int x1), some (.int x2), some (.int x3), some (.int x4), none], [.ref x0], σ)) r101_160 rfl rfl <| Er.sT (c2 := (162, [some (.ref x0), some (.int x1), some (.int x2), some (.int x3), some (.int x4), none], [.int (3 : Int32), .ref x0], σ)) r101_161 rfl rfl <| (Er.call (vs := [.ref x0, .int (3 : Int32)]) (rest := []) r101_162 rfl rfl (Nat.le_of_ble_eq_true rfl) (Nat.le_of_ble_eq_true rfl) (fun _ => ⟨_, _, rfl, h1⟩) hy k)
theorem b101_165 {d : Nat} {x0 : Nat} {x1 : Int32} {x2 : Int32} {x3 : Int32} {x4 : Int32} {s0 : Int32} {σ : St}  :
    Er (d + 1) 101 (165, [some (.ref x0), some (.int x1), some (.int x2), some (.int x3), some (.int x4), none], [.int s0], σ) (.inl (some (.int s0)), σ, 0) := (Er.ret r101_165 rfl ⟨_, _, rfl, rfl, rfl, rfl⟩)
theorem b101_166 {d : Nat} {q : Rs} {x0 : Nat} {x1 : Int32} {x2 : Int32} {x3 : Int32} {x4 : Int32} {σ : St} 
    (kt : ¬ x1 = (9 : Int32) → Er (d + 1) 101 (182, [some (.ref x0), some (.int x1), some (.int x2), some (.int x3), some (.int x4), none], [], σ) q)
    (kf : x1 = (9 : Int32) → Er (d + 1) 101 (172, [some (.ref x0), some (.int x1), some (.int x2), some (.int x3), some (.int x4), none], [], σ) q) :
    Er (d + 1) 101 (166, [some (.ref x0), some (.int x1), some (.int x2), some (.int x3), some (.int x4), none], [], σ) q := Er.sT (c2 := (167, [some (.ref x0), some (.int x1), some (.int x2), some (.int x3), some (.int x4), none], [.int x1], σ)) r101_166 rfl rfl <| Er.sT (c2 := (169, [some (.ref x0), some (.int x1), some (.int x2), some (.int x3), some (.int x4), none], [.int (9 : Int32), .int x1], σ)) r101_167 rfl rfl <| Er.sT (c2 := (brn .ne x1 (9 : Int32) 182 172, [some (.ref x0), some (.int x1), some (.int x2), some (.int x3), some (.int x4), none], [], σ)) r101_169 rfl rfl <| (br_ne kt kf)
theorem b101_172 {d : Nat} {q : Rs} {x0 : Nat} {x1 : Int32} {x2 : Int32} {x3 : Int32} {x4 : Int32} {σ : St} {σ2 : St} {r : Int32} (h1 : x0 < 24 ∧ kls x0 = 5)
    (hy : Er d 105 (0, ent 105 [.ref x0, .int x2, .int (gfi σ x0 5)], [], σ) (.inl (some (.int r)), σ2, 0))
    (k : Er (d + 1) 101 (181, [some (.ref x0), some (.int x1), some (.int x2), some (.int x3), some (.int x4), none], [.int r], σ2) q) :
    Er (d + 1) 101 (172, [some (.ref x0), some (.int x1), some (.int x2), some (.int x3), some (.int x4), none], [], σ) q := Er.sT (c2 := (173, [some (.ref x0), some (.int x1), some (.int x2), some (.int x3), some (.int x4), none], [.ref x0], σ)) r101_172 rfl rfl <| Er.sT (c2 := (174, [some (.ref x0), some (.int x1), some (.int x2), some (.int x3), some (.int x4), none], [.int x2, .ref x0], σ)) r101_173 rfl rfl <| Er.sT (c2 := (175, [some (.ref x0), some (.int x1), some (.int x2), some (.int x3), some (.int x4), none], [.ref x0, .int x2, .ref x0], σ)) r101_174 rfl rfl <| Er.st (P := (x0 < 24 ∧ kls x0 = 5)) (c2 := (178, [some (.ref x0), some (.int x1), some (.int x2), some (.int x3), some (.int x4), none], [.int (gfi σ x0 5), .int x2, .ref x0], σ)) r101_175 rfl rfl h1 <| (Er.call (vs := [.ref x0, .int x2, .int (gfi σ x0 5)]) (rest := []) r101_178 rfl rfl (Nat.le_of_ble_eq_true rfl) (Nat.le_of_ble_eq_true rfl) (fun _ => ⟨_, _, rfl, h1⟩) hy k)
theorem b101_181 {d : Nat} {x0 : Nat} {x1 : Int32} {x2 : Int32} {x3 : Int32} {x4 : Int32} {s0 : Int32} {σ : St}  :
    Er (d + 1) 101 (181, [some (.ref x0), some (.int x1), some (.int x2), some (.int x3), some (.int x4), none], [.int s0], σ) (.inl (some (.int s0)), σ, 0) := (Er.ret r101_181 rfl ⟨_, _, rfl, rfl, rfl, rfl⟩)
theorem b101_182 {d : Nat} {q : Rs} {x0 : Nat} {x1 : Int32} {x2 : Int32} {x3 : Int32} {x4 : Int32} {σ : St} 
    (kt : x1 < (11 : Int32) → Er (d + 1) 101 (250, [some (.ref x0), some (.int x1), some (.int x2), some (.int x3), some (.int x4), none], [], σ) q)
    (kf : ¬ x1 < (11 : Int32) → Er (d + 1) 101 (188, [some (.ref x0), some (.int x1), some (.int x2), some (.int x3), some (.int x4), none], [], σ) q) :
    Er (d + 1) 101 (182, [some (.ref x0), some (.int x1), some (.int x2), some (.int x3), some (.int x4), none], [], σ) q := Er.sT (c2 := (183, [some (.ref x0), some (.int x1), some (.int x2), some (.int x3), some (.int x4), none], [.int x1], σ)) r101_182 rfl rfl <| Er.sT (c2 := (185, [some (.ref x0), some (.int x1), some (.int x2), some (.int x3), some (.int x4), none], [.int (11 : Int32), .int x1], σ)) r101_183 rfl rfl <| Er.sT (c2 := (brn .lt x1 (11 : Int32) 250 188, [some (.ref x0), some (.int x1), some (.int x2), some (.int x3), some (.int x4), none], [], σ)) r101_185 rfl rfl <| (br_lt kt kf)
theorem b101_188 {d : Nat} {q : Rs} {x0 : Nat} {x1 : Int32} {x2 : Int32} {x3 : Int32} {x4 : Int32} {σ : St} {σ2 : St} {r : Int32} (h1 : x0 < 24 ∧ kls x0 = 5)
    (hy : Er d 109 (0, ent 109 [.ref x0, .int x2, .int x3], [], σ) (.inl (some (.int r)), σ2, 0))
    (k : Er (d + 1) 101 (194, [some (.ref x0), some (.int x1), some (.int x2), some (.int x3), some (.int x4), none], [.int r], σ2) q) :
    Er (d + 1) 101 (188, [some (.ref x0), some (.int x1), some (.int x2), some (.int x3), some (.int x4), none], [], σ) q := Er.sT (c2 := (189, [some (.ref x0), some (.int x1), some (.int x2), some (.int x3), some (.int x4), none], [.ref x0], σ)) r101_188 rfl rfl <| Er.sT (c2 := (190, [some (.ref x0), some (.int x1), some (.int x2), some (.int x3), some (.int x4), none], [.int x2, .ref x0], σ)) r101_189 rfl rfl <| Er.sT (c2 := (191, [some (.ref x0), some (.int x1), some (.int x2), some (.int x3), some (.int x4), none], [.int x3, .int x2, .ref x0], σ)) r101_190 rfl rfl <| (Er.call (vs := [.ref x0, .int x2, .int x3]) (rest := []) r101_191 rfl rfl (Nat.le_of_ble_eq_true rfl) (Nat.le_of_ble_eq_true rfl) (fun _ => ⟨_, _, rfl, h1⟩) hy k)
theorem b101_194 {d : Nat} {q : Rs} {x0 : Nat} {x1 : Int32} {x2 : Int32} {x3 : Int32} {x4 : Int32} {s0 : Int32} {σ : St} 
    (kt : (0 : Int32) < s0 → Er (d + 1) 101 (201, [some (.ref x0), some (.int x1), some (.int x2), some (.int x3), some (.int x4), none], [], σ) q)
    (kf : ¬ (0 : Int32) < s0 → Er (d + 1) 101 (197, [some (.ref x0), some (.int x1), some (.int x2), some (.int x3), some (.int x4), none], [], σ) q) :
    Er (d + 1) 101 (194, [some (.ref x0), some (.int x1), some (.int x2), some (.int x3), some (.int x4), none], [.int s0], σ) q := Er.sT (c2 := (brn .gt s0 (0 : Int32) 201 197, [some (.ref x0), some (.int x1), some (.int x2), some (.int x3), some (.int x4), none], [], σ)) r101_194 rfl rfl <| (br_gt kt kf)
theorem b101_197 {d : Nat} {q : Rs} {x0 : Nat} {x1 : Int32} {x2 : Int32} {x3 : Int32} {x4 : Int32} {σ : St} 
    (k : Er (d + 1) 101 (202, [some (.ref x0), some (.int x1), some (.int x2), some (.int x3), some (.int x4), none], [.int (1 : Int32)], σ) q) :
    Er (d + 1) 101 (197, [some (.ref x0), some (.int x1), some (.int x2), some (.int x3), some (.int x4), none], [], σ) q := Er.sT (c2 := (198, [some (.ref x0), some (.int x1), some (.int x2), some (.int x3), some (.int x4), none], [.int (1 : Int32)], σ)) r101_197 rfl rfl <| Er.sT (c2 := (202, [some (.ref x0), some (.int x1), some (.int x2), some (.int x3), some (.int x4), none], [.int (1 : Int32)], σ)) r101_198 rfl rfl <| k
theorem b101_201 {d : Nat} {q : Rs} {x0 : Nat} {x1 : Int32} {x2 : Int32} {x3 : Int32} {x4 : Int32} {σ : St} 
    (k : Er (d + 1) 101 (202, [some (.ref x0), some (.int x1), some (.int x2), some (.int x3), some (.int x4), none], [.int (0 : Int32)], σ) q) :
    Er (d + 1) 101 (201, [some (.ref x0), some (.int x1), some (.int x2), some (.int x3), some (.int x4), none], [], σ) q := Er.sT (c2 := (202, [some (.ref x0), some (.int x1), some (.int x2), some (.int x3), some (.int x4), none], [.int (0 : Int32)], σ)) r101_201 rfl rfl <| k
theorem b101_202 {d : Nat} {q : Rs} {x0 : Nat} {x1 : Int32} {x2 : Int32} {x3 : Int32} {x4 : Int32} {s0 : Int32} {σ : St} 
    (kt : ¬ x1 = (11 : Int32) → Er (d + 1) 101 (212, [some (.ref x0), some (.int x1), some (.int x2), some (.int x3), some (.int x4), none], [.int s0], σ) q)
    (kf : x1 = (11 : Int32) → Er (d + 1) 101 (208, [some (.ref x0), some (.int x1), some (.int x2), some (.int x3), some (.int x4), none], [.int s0], σ) q) :
    Er (d + 1) 101 (202, [some (.ref x0), some (.int x1), some (.int x2), some (.int x3), some (.int x4), none], [.int s0], σ) q := Er.sT (c2 := (203, [some (.ref x0), some (.int x1), some (.int x2), some (.int x3), some (.int x4), none], [.int x1, .int s0], σ)) r101_202 rfl rfl <| Er.sT (c2 := (205, [some (.ref x0), some (.int x1), some (.int x2), some (.int x3), some (.int x4), none], [.int (11 : Int32), .int x1, .int s0], σ)) r101_203 rfl rfl <| Er.sT (c2 := (brn .ne x1 (11 : Int32) 212 208, [some (.ref x0), some (.int x1), some (.int x2), some (.int x3), some (.int x4), none], [.int s0], σ)) r101_205 rfl rfl <| (br_ne kt kf)
theorem b101_208 {d : Nat} {q : Rs} {x0 : Nat} {x1 : Int32} {x2 : Int32} {x3 : Int32} {x4 : Int32} {s0 : Int32} {σ : St} 
    (k : Er (d + 1) 101 (213, [some (.ref x0), some (.int x1), some (.int x2), some (.int x3), some (.int x4), none], [.int (1 : Int32), .int s0], σ) q) :
    Er (d + 1) 101 (208, [some (.ref x0), some (.int x1), some (.int x2), some (.int x3), some (.int x4), none], [.int s0], σ) q := Er.sT (c2 := (209, [some (.ref x0), some (.int x1), some (.int x2), some (.int x3), some (.int x4), none], [.int (1 : Int32), .int s0], σ)) r101_208 rfl rfl <| Er.sT (c2 := (213, [some (.ref x0), some (.int x1), some (.int x2), some (.int x3), some (.int x4), none], [.int (1 : Int32), .int s0], σ)) r101_209 rfl rfl <| k
theorem b101_212 {d : Nat} {q : Rs} {x0 : Nat} {x1 : Int32} {x2 : Int32} {x3 : Int32} {x4 : Int32} {s0 : Int32} {σ : St} 
    (k : Er (d + 1) 101 (213, [some (.ref x0), some (.int x1), some (.int x2), some (.int x3), some (.int x4), none], [.int (0 : Int32), .int s0], σ) q) :
    Er (d + 1) 101 (212, [some (.ref x0), some (.int x1), some (.int x2), some (.int x3), some (.int x4), none], [.int s0], σ) q := Er.sT (c2 := (213, [some (.ref x0), some (.int x1), some (.int x2), some (.int x3), some (.int x4), none], [.int (0 : Int32), .int s0], σ)) r101_212 rfl rfl <| k
theorem b101_213 {d : Nat} {q : Rs} {x0 : Nat} {x1 : Int32} {x2 : Int32} {x3 : Int32} {x4 : Int32} {s0 : Int32} {s1 : Int32} {σ : St} 
    (kt : ¬ s0 = s1 → Er (d + 1) 101 (220, [some (.ref x0), some (.int x1), some (.int x2), some (.int x3), some (.int x4), none], [], σ) q)
    (kf : s0 = s1 → Er (d + 1) 101 (216, [some (.ref x0), some (.int x1), some (.int x2), some (.int x3), some (.int x4), none], [], σ) q) :
    Er (d + 1) 101 (213, [some (.ref x0), some (.int x1), some (.int x2), some (.int x3), some (.int x4), none], [.int s1, .int s0], σ) q := Er.sT (c2 := (brn .ne s0 s1 220 216, [some (.ref x0), some (.int x1), some (.int x2), some (.int x3), some (.int x4), none], [], σ)) r101_213 rfl rfl <| (br_ne kt kf)
theorem b101_216 {d : Nat} {q : Rs} {x0 : Nat} {x1 : Int32} {x2 : Int32} {x3 : Int32} {x4 : Int32} {σ : St} 
    (k : Er (d + 1) 101 (221, [some (.ref x0), some (.int x1), some (.int x2), some (.int x3), some (.int x4), none], [.int x2], σ) q) :
    Er (d + 1) 101 (216, [some (.ref x0), some (.int x1), some (.int x2), some (.int x3), some (.int x4), none], [], σ) q := Er.sT (c2 := (217, [some (.ref x0), some (.int x1), some (.int x2), some (.int x3), some (.int x4), none], [.int x2], σ)) r101_216 rfl rfl <| Er.sT (c2 := (221, [some (.ref x0), some (.int x1), some (.int x2), some (.int x3), some (.int x4), none], [.int x2], σ)) r101_217 rfl rfl <| k
theorem b101_220 {d : Nat} {q : Rs} {x0 : Nat} {x1 : Int32} {x2 : Int32} {x3 : Int32} {x4 : Int32} {σ : St} 
    (k : Er (d + 1) 101 (221, [some (.ref x0), some (.int x1), some (.int x2), some (.int x3), some (.int x4), none], [.int x3], σ) q) :
    Er (d + 1) 101 (220, [some (.ref x0), some (.int x1), some (.int x2), some (.int x3), some (.int x4), none], [], σ) q := Er.sT (c2 := (221, [some (.ref x0), some (.int x1), some (.int x2), some (.int x3), some (.int x4), none], [.int x3], σ)) r101_220 rfl rfl <| k
theorem b101_221 {d : Nat} {q : Rs} {x0 : Nat} {x1 : Int32} {x2 : Int32} {x3 : Int32} {x4 : Int32} {s0 : Int32} {σ : St} {σ2 : St}  (h1 : x0 < 24 ∧ kls x0 = 5)
    (hy : Er d 106 (0, ent 106 [.ref x0, .int s0, .int (0 : Int32)], [], σ) (.inl none, σ2, 0))
    (k : Er (d + 1) 101 (230, [some (.ref x0), some (.int x1), some (.int x2), some (.int x3), some (.int x4), some (.int s0)], [], σ2) q) :
    Er (d + 1) 101 (221, [some (.ref x0), some (.int x1), some (.int x2), some (.int x3), some (.int x4), none], [.int s0], σ) q := Er.sT (c2 := (223, [some (.ref x0), some (.int x1), some (.int x2), some (.int x3), some (.int x4), some (.int s0)], [], σ)) r101_221 rfl rfl <| Er.sT (c2 := (224, [some (.ref x0), some (.int x1), some (.int x2), some (.int x3), some (.int x4), some (.int s0)], [.ref x0], σ)) r101_223 rfl rfl <| Er.sT (c2 := (226, [some (.ref x0), some (.int x1), some (.int x2), some (.int x3), some (.int x4), some (.int s0)], [.int s0, .ref x0], σ)) r101_224 rfl rfl <| Er.sT (c2 := (227, [some (.ref x0), some (.int x1), some (.int x2), some (.int x3), some (.int x4), some (.int s0)], [.int (0 : Int32), .int s0, .ref x0], σ)) r101_226 rfl rfl <| (Er.call (vs := [.ref x0, .int s0, .int (0 : Int32)]) (rest := []) r101_227 rfl rfl (Nat.le_of_ble_eq_true rfl) (Nat.le_of_ble_eq_true rfl) (fun _ => ⟨_, _, rfl, h1⟩) hy k)
theorem b101_230 {d : Nat} {q : Rs} {x0 : Nat} {x1 : Int32} {x2 : Int32} {x3 : Int32} {x4 : Int32} {x5 : Int32} {σ : St} {σ2 : St}  (h1 : x0 < 24 ∧ kls x0 = 5)
    (hy : Er d 107 (0, ent 107 [.ref x0, .int x5, .int (1 : Int32)], [], σ) (.inl none, σ2, 0))
    (k : Er (d + 1) 101 (237, [some (.ref x0), some (.int x1), some (.int x2), some (.int x3), some (.int x4), some (.int x5)], [], σ2) q) :
    Er (d + 1) 101 (230, [some (.ref x0), some (.int x1), some (.int x2), some (.int x3), some (.int x4), some (.int x5)], [], σ) q := Er.sT (c2 := (231, [some (.ref x0), some (.int x1), some (.int x2), some (.int x3), some (.int x4), some (.int x5)], [.ref x0], σ)) r101_230 rfl rfl <| Er.sT (c2 := (233, [some (.ref x0), some (.int x1), some (.int x2), some (.int x3), some (.int x4), some (.int x5)], [.int x5, .ref x0], σ)) r101_231 rfl rfl <| Er.sT (c2 := (234, [some (.ref x0), some (.int x1), some (.int x2), some (.int x3), some (.int x4), some (.int x5)], [.int (1 : Int32), .int x5, .ref x0], σ)) r101_233 rfl rfl <| (Er.call (vs := [.ref x0, .int x5, .int (1 : Int32)]) (rest := []) r101_234 rfl rfl (Nat.le_of_ble_eq_true rfl) (Nat.le_of_ble_eq_true rfl) (fun _ => ⟨_, _, rfl, h1⟩) hy k)
theorem b101_237 {d : Nat} {q : Rs} {x0 : Nat} {x1 : Int32} {x2 : Int32} {x3 : Int32} {x4 : Int32} {x5 : Int32} {σ : St} {σ2 : St} {r : Int32} (h1 : x0 < 24 ∧ kls x0 = 5) (h2 : ¬ (fr x0 2) = 48) (h3 : ((fr x0 2) = 41 ∨ (fr x0 2) = 42) ∧ vp_in x5 (ale (fr x0 2)))
    (hy : Er d 80 (0, ent 80 [.ref x0, .int (gai σ (fr x0 2) x5.toNatClampNeg), .int (4 : Int32)], [], σ) (.inl (some (.int r)), σ2, 0))
    (k : Er (d + 1) 101 (249, [some (.ref x0), some (.int x1), some (.int x2), some (.int x3), some (.int x4), some (.int x5)], [.int r], σ2) q) :
    Er (d + 1) 101 (237, [some (.ref x0), some (.int x1), some (.int x2), some (.int x3), some (.int x4), some (.int x5)], [], σ) q := Er.sT (c2 := (238, [some (.ref x0), some (.int x1), some (.int x2), some (.int x3), some (.int x4), some (.int x5)], [.ref x0], σ)) r101_237 rfl rfl <| Er.sT (c2 := (239, [some (.ref x0), some (.int x1), some (.int x2), some (.int x3), some (.int x4), some (.int x5)], [.ref x0, .ref x0], σ)) r101_238 rfl rfl <| Er.st (P := (x0 < 24 ∧ kls x0 = 5)) (c2 := (242, [some (.ref x0), some (.int x1), some (.int x2), some (.int x3), some (.int x4), some (.int x5)], [.ref (fr x0 2), .ref x0], σ)) r101_239 rfl rfl h1 <| Er.sT (c2 := (244, [some (.ref x0), some (.int x1), some (.int x2), some (.int x3), some (.int x4), some (.int x5)], [.int x5, .ref (fr x0 2), .ref x0], σ)) r101_242 rfl rfl <| Er.st (P := (((fr x0 2) = 41 ∨ (fr x0 2) = 42) ∧ vp_in x5 (ale (fr x0 2)))) (c2 := (245, [some (.ref x0), some (.int x1), some (.int x2), some (.int x3), some (.int x4), some (.int x5)], [.int (gai σ (fr x0 2) x5.toNatClampNeg), .ref x0], σ)) r101_244 rfl (if_neg h2) h3 <| Er.sT (c2 := (246, [some (.ref x0), some (.int x1), some (.int x2), some (.int x3), some (.int x4), some (.int x5)], [.int (4 : Int32), .int (gai σ (fr x0 2) x5.toNatClampNeg), .ref x0], σ)) r101_245 rfl rfl <| (Er.call (vs := [.ref x0, .int (gai σ (fr x0 2) x5.toNatClampNeg), .int (4 : Int32)]) (rest := []) r101_246 rfl rfl (Nat.le_of_ble_eq_true rfl) (Nat.le_of_ble_eq_true rfl) (fun _ => ⟨_, _, rfl, h1⟩) hy k)
theorem b101_249 {d : Nat} {x0 : Nat} {x1 : Int32} {x2 : Int32} {x3 : Int32} {x4 : Int32} {x5 : Int32} {s0 : Int32} {σ : St}  :
    Er (d + 1) 101 (249, [some (.ref x0), some (.int x1), some (.int x2), some (.int x3), some (.int x4), some (.int x5)], [.int s0], σ) (.inl (some (.int s0)), σ, 0) := (Er.ret r101_249 rfl ⟨_, _, rfl, rfl, rfl, rfl⟩)
theorem b101_250 {d : Nat} {q : Rs} {x0 : Nat} {x1 : Int32} {x2 : Int32} {x3 : Int32} {x4 : Int32} {σ : St} 
    (kt : ¬ x1 = (8 : Int32) → Er (d + 1) 101 (294, [some (.ref x0), some (.int x1), some (.int x2), some (.int x3), some (.int x4), none], [], σ) q)
    (kf : x1 = (8 : Int32) → Er (d + 1) 101 (256, [some (.ref x0), some (.int x1), some (.int x2), some (.int x3), some (.int x4), none], [], σ) q) :
    Er (d + 1) 101 (250, [some (.ref x0), some (.int x1), some (.int x2), some (.int x3), some (.int x4), none], [], σ) q := Er.sT (c2 := (251, [some (.ref x0), some (.int x1), some (.int x2), some (.int x3), some (.int x4), none], [.int x1], σ)) r101_250 rfl rfl <| Er.sT (c2 := (253, [some (.ref x0), some (.int x1), some (.int x2), some (.int x3), some (.int x4), none], [.int (8 : Int32), .int x1], σ)) r101_251 rfl rfl <| Er.sT (c2 := (brn .ne x1 (8 : Int32) 294 256, [some (.ref x0), some (.int x1), some (.int x2), some (.int x3), some (.int x4), none], [], σ)) r101_253 rfl rfl <| (br_ne kt kf)
theorem b101_256 {d : Nat} {q : Rs} {x0 : Nat} {x1 : Int32} {x2 : Int32} {x3 : Int32} {x4 : Int32} {σ : St} {σ2 : St}  (h1 : x0 < 24 ∧ kls x0 = 5)
    (hy : Er d 106 (0, ent 106 [.ref x0, .int x2, .int (2 : Int32)], [], σ) (.inl none, σ2, 0))
    (k : Er (d + 1) 101 (262, [some (.ref x0), some (.int x1), some (.int x2), some (.int x3), some (.int x4), none], [], σ2) q) :
    Er (d + 1) 101 (256, [some (.ref x0), some (.int x1), some (.int x2), some (.int x3), some (.int x4), none], [], σ) q := Er.sT (c2 := (257, [some (.ref x0), some (.int x1), some (.int x2), some (.int x3), some (.int x4), none], [.ref x0], σ)) r101_256 rfl rfl <| Er.sT (c2 := (258, [some (.ref x0), some (.int x1), some (.int x2), some (.int x3), some (.int x4), none], [.int x2, .ref x0], σ)) r101_257 rfl rfl <| Er.sT (c2 := (259, [some (.ref x0), some (.int x1), some (.int x2), some (.int x3), some (.int x4), none], [.int (2 : Int32), .int x2, .ref x0], σ)) r101_258 rfl rfl <| (Er.call (vs := [.ref x0, .int x2, .int (2 : Int32)]) (rest := []) r101_259 rfl rfl (Nat.le_of_ble_eq_true rfl) (Nat.le_of_ble_eq_true rfl) (fun _ => ⟨_, _, rfl, h1⟩) hy k)
theorem b101_262 {d : Nat} {q : Rs} {x0 : Nat} {x1 : Int32} {x2 : Int32} {x3 : Int32} {x4 : Int32} {σ : St} {σ2 : St}  (h1 : x0 < 24 ∧ kls x0 = 5)
    (hy : Er d 106 (0, ent 106 [.ref x0, .int x3, .int (3 : Int32)], [], σ) (.inl none, σ2, 0))
    (k : Er (d + 1) 101 (268, [some (.ref x0), some (.int x1), some (.int x2), some (.int x3), some (.int x4), none], [], σ2) q) :
    Er (d + 1) 101 (262, [some (.ref x0), some (.int x1), some (.int x2), some (.int x3), some (.int x4), none], [], σ) q := Er.sT (c2 := (263, [some (.ref x0), some (.int x1), some (.int x2), some (.int x3), some (.int x4), none], [.ref x0], σ)) r101_262 rfl rfl <| Er.sT (c2 := (264, [some (.ref x0), some (.int x1), some (.int x2), some (.int x3), some (.int x4), none], [.int x3, .ref x0], σ)) r101_263 rfl rfl <| Er.sT (c2 := (265, [some (.ref x0), some (.int x1), some (.int x2), some (.int x3), some (.int x4), none], [.int (3 : Int32), .int x3, .ref x0], σ)) r101_264 rfl rfl <| (Er.call (vs := [.ref x0, .int x3, .int (3 : Int32)]) (rest := []) r101_265 rfl rfl (Nat.le_of_ble_eq_true rfl) (Nat.le_of_ble_eq_true rfl) (fun _ => ⟨_, _, rfl, h1⟩) hy k)
theorem b101_268 {d : Nat} {q : Rs} {x0 : Nat} {x1 : Int32} {x2 : Int32} {x3 : Int32} {x4 : Int32} {σ : St} {σ2 : St}  (h1 : x0 < 24 ∧ kls x0 = 5)
    (hy : Er d 82 (0, ent 82 [.ref x0, .int (2 : Int32), .int (3 : Int32)], [], σ) (.inl none, σ2, 0))
    (k : Er (d + 1) 101 (274, [some (.ref x0), some (.int x1), some (.int x2), some (.int x3), some (.int x4), none], [], σ2) q) :
    Er (d + 1) 101 (268, [some (.ref x0), some (.int x1), some (.int x2), some (.int x3), some (.int x4), none], [], σ) q := Er.sT (c2 := (269, [some (.ref x0), some (.int x1), some (.int x2), some (.int x3), some (.int x4), none], [.ref x0], σ)) r101_268 rfl rfl <| Er.sT (c2 := (270, [some (.ref x0), some (.int x1), some (.int x2), some (.int x3), some (.int x4), none], [.int (2 : Int32), .ref x0], σ)) r101_269 rfl rfl <| Er.sT (c2 := (271, [some (.ref x0), some (.int x1), some (.int x2), some (.int x3), some (.int x4), none], [.int (3 : Int32), .int (2 : Int32), .ref x0], σ)) r101_270 rfl rfl <| (Er.call (vs := [.ref x0, .int (2 : Int32), .int (3 : Int32)]) (rest := []) r101_271 rfl rfl (Nat.le_of_ble_eq_true rfl) (Nat.le_of_ble_eq_true rfl) (fun _ => ⟨_, _, rfl, h1⟩) hy k)
theorem b101_274 {d : Nat} {q : Rs} {x0 : Nat} {x1 : Int32} {x2 : Int32} {x3 : Int32} {x4 : Int32} {σ : St} {σ2 : St}  (h1 : x0 < 24 ∧ kls x0 = 5)
    (hy : Er d 83 (0, ent 83 [.ref x0, .int (14 : Int32), .int (0 : Int32)], [], σ) (.inl none, σ2, 0))
    (k : Er (d + 1) 101 (281, [some (.ref x0), some (.int x1), some (.int x2), some (.int x3), some (.int x4), none], [], σ2) q) :
    Er (d + 1) 101 (274, [some (.ref x0), some (.int x1), some (.int x2), some (.int x3), some (.int x4), none], [], σ) q := Er.sT (c2 := (275, [some (.ref x0), some (.int x1), some (.int x2), some (.int x3), some (.int x4), none], [.ref x0], σ)) r101_274 rfl rfl <| Er.sT (c2 := (277, [some (.ref x0), some (.int x1), some (.int x2), some (.int x3), some (.int x4), none], [.int (14 : Int32), .ref x0], σ)) r101_275 rfl rfl <| Er.sT (c2 := (278, [some (.ref x0), some (.int x1), some (.int x2), some (.int x3), some (.int x4), none], [.int (0 : Int32), .int (14 : Int32), .ref x0], σ)) r101_277 rfl rfl <| (Er.call (vs := [.ref x0, .int (14 : Int32), .int (0 : Int32)]) (rest := []) r101_278 rfl rfl (Nat.le_of_ble_eq_true rfl) (Nat.le_of_ble_eq_true rfl) (fun _ => ⟨_, _, rfl, h1⟩) hy k)
theorem b101_281 {d : Nat} {q : Rs} {x0 : Nat} {x1 : Int32} {x2 : Int32} {x3 : Int32} {x4 : Int32} {σ : St} {σ2 : St}  (h1 : x0 < 24 ∧ kls x0 = 5)
    (hy : Er d 78 (0, ent 78 [.ref x0, .int (1 : Int32), .long (1 : Int64)], [], σ) (.inl none, σ2, 0))
    (k : Er (d + 1) 101 (287, [some (.ref x0), some (.int x1), some (.int x2), some (.int x3), some (.int x4), none], [], σ2) q) :
    Er (d + 1) 101 (281, [some (.ref x0), some (.int x1), some (.int x2), some (.int x3), some (.int x4), none], [], σ) q := Er.sT (c2 := (282, [some (.ref x0), some (.int x1), some (.int x2), some (.int x3), some (.int x4), none], [.ref x0], σ)) r101_281 rfl rfl <| Er.sT (c2 := (283, [some (.ref x0), some (.int x1), some (.int x2), some (.int x3), some (.int x4), none], [.int (1 : Int32), .ref x0], σ)) r101_282 rfl rfl <| Er.sT (c2 := (284, [some (.ref x0), some (.int x1), some (.int x2), some (.int x3), some (.int x4), none], [.long (1 : Int64), .int (1 : Int32), .ref x0], σ)) r101_283 rfl rfl <| (Er.call (vs := [.ref x0, .int (1 : Int32), .long (1 : Int64)]) (rest := []) r101_284 rfl rfl (Nat.le_of_ble_eq_true rfl) (Nat.le_of_ble_eq_true rfl) (fun _ => ⟨_, _, rfl, h1⟩) hy k)
theorem b101_287 {d : Nat} {q : Rs} {x0 : Nat} {x1 : Int32} {x2 : Int32} {x3 : Int32} {x4 : Int32} {σ : St} {σ2 : St} {r : Int32} (h1 : x0 < 24 ∧ kls x0 = 5)
    (hy : Er d 80 (0, ent 80 [.ref x0, .int (1 : Int32), .int (4 : Int32)], [], σ) (.inl (some (.int r)), σ2, 0))
    (k : Er (d + 1) 101 (293, [some (.ref x0), some (.int x1), some (.int x2), some (.int x3), some (.int x4), none], [.int r], σ2) q) :
    Er (d + 1) 101 (287, [some (.ref x0), some (.int x1), some (.int x2), some (.int x3), some (.int x4), none], [], σ) q := Er.sT (c2 := (288, [some (.ref x0), some (.int x1), some (.int x2), some (.int x3), some (.int x4), none], [.ref x0], σ)) r101_287 rfl rfl <| Er.sT (c2 := (289, [some (.ref x0), some (.int x1), some (.int x2), some (.int x3), some (.int x4), none], [.int (1 : Int32), .ref x0], σ)) r101_288 rfl rfl <| Er.sT (c2 := (290, [some (.ref x0), some (.int x1), some (.int x2), some (.int x3), some (.int x4), none], [.int (4 : Int32), .int (1 : Int32), .ref x0], σ)) r101_289 rfl rfl <| (Er.call (vs := [.ref x0, .int (1 : Int32), .int (4 : Int32)]) (rest := []) r101_290 rfl rfl (Nat.le_of_ble_eq_true rfl) (Nat.le_of_ble_eq_true rfl) (fun _ => ⟨_, _, rfl, h1⟩) hy k)
theorem b101_293 {d : Nat} {x0 : Nat} {x1 : Int32} {x2 : Int32} {x3 : Int32} {x4 : Int32} {s0 : Int32} {σ : St}  :
    Er (d + 1) 101 (293, [some (.ref x0), some (.int x1), some (.int x2), some (.int x3), some (.int x4), none], [.int s0], σ) (.inl (some (.int s0)), σ, 0) := (Er.ret r101_293 rfl ⟨_, _, rfl, rfl, rfl, rfl⟩)
theorem b101_294 {d : Nat} {q : Rs} {x0 : Nat} {x1 : Int32} {x2 : Int32} {x3 : Int32} {x4 : Int32} {σ : St} 
    (kt : ¬ x1 = (10 : Int32) → Er (d + 1) 101 (359, [some (.ref x0), some (.int x1), some (.int x2), some (.int x3), some (.int x4), none], [], σ) q)
    (kf : x1 = (10 : Int32) → Er (d + 1) 101 (300, [some (.ref x0), some (.int x1), some (.int x2), some (.int x3), some (.int x4), none], [], σ) q) :
    Er (d + 1) 101 (294, [some (.ref x0), some (.int x1), some (.int x2), some (.int x3), some (.int x4), none], [], σ) q := Er.sT (c2 := (295, [some (.ref x0), some (.int x1), some (.int x2), some (.int x3), some (.int x4), none], [.int x1], σ)) r101_294 rfl rfl <| Er.sT (c2 := (297, [some (.ref x0), some (.int x1), some (.int x2), some (.int x3), some (.int x4), none], [.int (10 : Int32), .int x1], σ)) r101_295 rfl rfl <| Er.sT (c2 := (brn .ne x1 (10 : Int32) 359 300, [some (.ref x0), some (.int x1), some (.int x2), some (.int x3), some (.int x4), none], [], σ)) r101_297 rfl rfl <| (br_ne kt kf)
theorem b101_300 {d : Nat} {q : Rs} {x0 : Nat} {x1 : Int32} {x2 : Int32} {x3 : Int32} {x4 : Int32} {σ : St} {σ2 : St}  (h1 : x0 < 24 ∧ kls x0 = 5)
    (hy : Er d 106 (0, ent 106 [.ref x0, .int x2, .int (0 : Int32)], [], σ) (.inl none, σ2, 0))
    (k : Er (d + 1) 101 (306, [some (.ref x0), some (.int x1), some (.int x2), some (.int x3), some (.int x4), none], [], σ2) q) :
    Er (d + 1) 101 (300, [some (.ref x0), some (.int x1), some (.int x2), some (.int x3), some (.int x4), none], [], σ) q := Er.sT (c2 := (301, [some (.ref x0), some (.int x1), some (.int x2), some (.int x3), some (.int x4), none], [.ref x0], σ)) r101_300 rfl rfl <| Er.sT (c2 := (302, [some (.ref x0), some (.int x1), some (.int x2), some (.int x3), some (.int x4), none], [.int x2, .ref x0], σ)) r101_301 rfl rfl <| Er.sT (c2 := (303, [some (.ref x0), some (.int x1), some (.int x2), some (.int x3), some (.int x4), none], [.int (0 : Int32), .int x2, .ref x0], σ)) r101_302 rfl rfl <| (Er.call (vs := [.ref x0, .int x2, .int (0 : Int32)]) (rest := []) r101_303 rfl rfl (Nat.le_of_ble_eq_true rfl) (Nat.le_of_ble_eq_true rfl) (fun _ => ⟨_, _, rfl, h1⟩) hy k)
theorem b101_306 {d : Nat} {q : Rs} {x0 : Nat} {x1 : Int32} {x2 : Int32} {x3 : Int32} {x4 : Int32} {σ : St} {σ2 : St}  (h1 : x0 < 24 ∧ kls x0 = 5)
    (hy : Er d 107 (0, ent 107 [.ref x0, .int x2, .int (1 : Int32)], [], σ) (.inl none, σ2, 0))
    (k : Er (d + 1) 101 (312, [some (.ref x0), some (.int x1), some (.int x2), some (.int x3), some (.int x4), none], [], σ2) q) :
    Er (d + 1) 101 (306, [some (.ref x0), some (.int x1), some (.int x2), some (.int x3), some (.int x4), none], [], σ) q := Er.sT (c2 := (307, [some (.ref x0), some (.int x1), some (.int x2), some (.int x3), some (.int x4), none], [.ref x0], σ)) r101_306 rfl rfl <| Er.sT (c2 := (308, [some (.ref x0), some (.int x1), some (.int x2), some (.int x3), some (.int x4), none], [.int x2, .ref x0], σ)) r101_307 rfl rfl <| Er.sT (c2 := (309, [some (.ref x0), some (.int x1), some (.int x2), some (.int x3), some (.int x4), none], [.int (1 : Int32), .int x2, .ref x0], σ)) r101_308 rfl rfl <| (Er.call (vs := [.ref x0, .int x2, .int (1 : Int32)]) (rest := []) r101_309 rfl rfl (Nat.le_of_ble_eq_true rfl) (Nat.le_of_ble_eq_true rfl) (fun _ => ⟨_, _, rfl, h1⟩) hy k)
theorem b101_312 {d : Nat} {q : Rs} {x0 : Nat} {x1 : Int32} {x2 : Int32} {x3 : Int32} {x4 : Int32} {σ : St} (h1 : x0 < 24 ∧ kls x0 = 5)
    (kt : (gfi σ x0 5) ≤ (0 : Int32) → Er (d + 1) 101 (324, [some (.ref x0), some (.int x1), some (.int x2), some (.int x3), some (.int x4), none], [.ref x0], σ) q)
    (kf : ¬ (gfi σ x0 5) ≤ (0 : Int32) → Er (d + 1) 101 (320, [some (.ref x0), some (.int x1), some (.int x2), some (.int x3), some (.int x4), none], [.ref x0], σ) q) :
    Er (d + 1) 101 (312, [some (.ref x0), some (.int x1), some (.int x2), some (.int x3), some (.int x4), none], [], σ) q := Er.sT (c2 := (313, [some (.ref x0), some (.int x1), some (.int x2), some (.int x3), some (.int x4), none], [.ref x0], σ)) r101_312 rfl rfl <| Er.sT (c2 := (314, [some (.ref x0), some (.int x1), some (.int x2), some (.int x3), some (.int x4), none], [.ref x0, .ref x0], σ)) r101_313 rfl rfl <| Er.st (P := (x0 < 24 ∧ kls x0 = 5)) (c2 := (317, [some (.ref x0), some (.int x1), some (.int x2), some (.int x3), some (.int x4), none], [.int (gfi σ x0 5), .ref x0], σ)) r101_314 rfl rfl h1 <| Er.sT (c2 := (brn .le (gfi σ x0 5) (0 : Int32) 324 320, [some (.ref x0), some (.int x1), some (.int x2), some (.int x3), some (.int x4), none], [.ref x0], σ)) r101_317 rfl rfl <| (br_le kt kf)
theorem b101_320 {d : Nat} {q : Rs} {x0 : Nat} {x1 : Int32} {x2 : Int32} {x3 : Int32} {x4 : Int32} {s0 : Nat} {σ : St} 
    (k : Er (d + 1) 101 (325, [some (.ref x0), some (.int x1), some (.int x2), some (.int x3), some (.int x4), none], [.int (0 : Int32), .ref s0], σ) q) :
    Er (d + 1) 101 (320, [some (.ref x0), some (.int x1), some (.int x2), some (.int x3), some (.int x4), none], [.ref s0], σ) q := Er.sT (c2 := (321, [some (.ref x0), some (.int x1), some (.int x2), some (.int x3), some (.int x4), none], [.int (0 : Int32), .ref s0], σ)) r101_320 rfl rfl <| Er.sT (c2 := (325, [some (.ref x0), some (.int x1), some (.int x2), some (.int x3), some (.int x4), none], [.int (0 : Int32), .ref s0], σ)) r101_321 rfl rfl <| k
theorem b101_324 {d : Nat} {q : Rs} {x0 : Nat} {x1 : Int32} {x2 : Int32} {x3 : Int32} {x4 : Int32} {s0 : Nat} {σ : St} 
    (k : Er (d + 1) 101 (325, [some (.ref x0), some (.int x1), some (.int x2), some (.int x3), some (.int x4), none], [.int (1 : Int32), .ref s0], σ) q) :
    Er (d + 1) 101 (324, [some (.ref x0), some (.int x1), some (.int x2), some (.int x3), some (.int x4), none], [.ref s0], σ) q := Er.sT (c2 := (325, [some (.ref x0), some (.int x1), some (.int x2), some (.int x3), some (.int x4), none], [.int (1 : Int32), .ref s0], σ)) r101_324 rfl rfl <| k
theorem b101_325 {d : Nat} {q : Rs} {x0 : Nat} {x1 : Int32} {x2 : Int32} {x3 : Int32} {x4 : Int32} {s0 : Nat} {s1 : Int32} {σ : St} (h1 : x0 < 24 ∧ kls x0 = 5)
    (kt : (gfi σ x0 5) ≤ (0 : Int32) → Er (d + 1) 101 (339, [some (.ref x0), some (.int x1), some (.int x2), some (.int x3), some (.int x4), none], [.int s1, .ref s0], σ) q)
    (kf : ¬ (gfi σ x0 5) ≤ (0 : Int32) → Er (d + 1) 101 (332, [some (.ref x0), some (.int x1), some (.int x2), some (.int x3), some (.int x4), none], [.int s1, .ref s0], σ) q) :
    Er (d + 1) 101 (325, [some (.ref x0), some (.int x1), some (.int x2), some (.int x3), some (.int x4), none], [.int s1, .ref s0], σ) q := Er.sT (c2 := (326, [some (.ref x0), some (.int x1), some (.int x2), some (.int x3), some (.int x4), none], [.ref x0, .int s1, .ref s0], σ)) r101_325 rfl rfl <| Er.st (P := (x0 < 24 ∧ kls x0 = 5)) (c2 := (329, [some (.ref x0), some (.int x1), some (.int x2), some (.int x3), some (.int x4), none], [.int (gfi σ x0 5), .int s1, .ref s0], σ)) r101_326 rfl rfl h1 <| Er.sT (c2 := (brn .le (gfi σ x0 5) (0 : Int32) 339 332, [some (.ref x0), some (.int x1), some (.int x2), some (.int x3), some (.int x4), none], [.int s1, .ref s0], σ)) r101_329 rfl rfl <| (br_le kt kf)
theorem b101_332 {d : Nat} {q : Rs} {x0 : Nat} {x1 : Int32} {x2 : Int32} {x3 : Int32} {x4 : Int32} {s0 : Nat} {s1 : Int32} {σ : St} (h1 : x0 < 24 ∧ kls x0 = 5)
    (k : Er (d + 1) 101 (344, [some (.ref x0), some (.int x1), some (.int x2), some (.int x3), some (.int x4), none], [.int (gfi σ x0 5), .int s1, .ref s0], σ) q) :
    Er (d + 1) 101 (332, [some (.ref x0), some (.int x1), some (.int x2), some (.int x3), some (.int x4), none], [.int s1, .ref s0], σ) q := Er.sT (c2 := (333, [some (.ref x0), some (.int x1), some (.int x2), some (.int x3), some (.int x4), none], [.ref x0, .int s1, .ref s0], σ)) r101_332 rfl rfl <| Er.st (P := (x0 < 24 ∧ kls x0 = 5)) (c2 := (336, [some (.ref x0), some (.int x1), some (.int x2), some (.int x3), some (.int x4), none], [.int (gfi σ x0 5), .int s1, .ref s0], σ)) r101_333 rfl rfl h1 <| Er.sT (c2 := (344, [some (.ref x0), some (.int x1), some (.int x2), some (.int x3), some (.int x4), none], [.int (gfi σ x0 5), .int s1, .ref s0], σ)) r101_336 rfl rfl <| k
theorem b101_339 {d : Nat} {q : Rs} {x0 : Nat} {x1 : Int32} {x2 : Int32} {x3 : Int32} {x4 : Int32} {s0 : Nat} {s1 : Int32} {σ : St} (h1 : x0 < 24 ∧ kls x0 = 5)
    (k : Er (d + 1) 101 (344, [some (.ref x0), some (.int x1), some (.int x2), some (.int x3), some (.int x4), none], [.int (-(gfi σ x0 5)), .int s1, .ref s0], σ) q) :
    Er (d + 1) 101 (339, [some (.ref x0), some (.int x1), some (.int x2), some (.int x3), some (.int x4), none], [.int s1, .ref s0], σ) q := Er.sT (c2 := (340, [some (.ref x0), some (.int x1), some (.int x2), some (.int x3), some (.int x4), none], [.ref x0, .int s1, .ref s0], σ)) r101_339 rfl rfl <| Er.st (P := (x0 < 24 ∧ kls x0 = 5)) (c2 := (343, [some (.ref x0), some (.int x1), some (.int x2), some (.int x3), some (.int x4), none], [.int (gfi σ x0 5), .int s1, .ref s0], σ)) r101_340 rfl rfl h1 <| Er.sT (c2 := (344, [some (.ref x0), some (.int x1), some (.int x2), some (.int x3), some (.int x4), none], [.int (-(gfi σ x0 5)), .int s1, .ref s0], σ)) r101_343 rfl rfl <| k
theorem b101_344 {d : Nat} {q : Rs} {x0 : Nat} {x1 : Int32} {x2 : Int32} {x3 : Int32} {x4 : Int32} {s0 : Nat} {s1 : Int32} {s2 : Int32} {σ : St} {σ2 : St}  (h1 : s0 < 24 ∧ kls s0 = 5)
    (hy : Er d 89 (0, ent 89 [.ref s0, .int s1, .int s2], [], σ) (.inl none, σ2, 0))
    (k : Er (d + 1) 101 (347, [some (.ref x0), some (.int x1), some (.int x2), some (.int x3), some (.int x4), none], [], σ2) q) :
    Er (d + 1) 101 (344, [some (.ref x0), some (.int x1), some (.int x2), some (.int x3), some (.int x4), none], [.int s2, .int s1, .ref s0], σ) q := (Er.call (vs := [.ref s0, .int s1, .int s2]) (rest := []) r101_344 rfl rfl (Nat.le_of_ble_eq_true rfl) (Nat.le_of_ble_eq_true rfl) (fun _ => ⟨_, _, rfl, h1⟩) hy k)
theorem b101_347 {d : Nat} {q : Rs} {x0 : Nat} {x1 : Int32} {x2 : Int32} {x3 : Int32} {x4 : Int32} {σ : St} {σ2 : St} {r : Int32} (h1 : x0 < 24 ∧ kls x0 = 5) (h2 : ¬ (fr x0 2) = 48) (h3 : ((fr x0 2) = 41 ∨ (fr x0 2) = 42) ∧ vp_in x2 (ale (fr x0 2)))
    (hy : Er d 80 (0, ent 80 [.ref x0, .int (gai σ (fr x0 2) x2.toNatClampNeg), .int (4 : Int32)], [], σ) (.inl (some (.int r)), σ2, 0))
    (k : Er (d + 1) 101 (358, [some (.ref x0), some (.int x1), some (.int x2), some (.int x3), some (.int x4), none], [.int r], σ2) q) :
    Er (d + 1) 101 (347, [some (.ref x0), some (.int x1), some (.int x2), some (.int x3), some (.int x4), none], [], σ) q := Er.sT (c2 := (348, [some (.ref x0), some (.int x1), some (.int x2), some (.int x3), some (.int x4), none], [.ref x0], σ)) r101_347 rfl rfl <| Er.sT (c2 := (349, [some (.ref x0), some (.int x1), some (.int x2), some (.int x3), some (.int x4), none], [.ref x0, .ref x0], σ)) r101_348 rfl rfl <| Er.st (P := (x0 < 24 ∧ kls x0 = 5)) (c2 := (352, [some (.ref x0), some (.int x1), some (.int x2), some (.int x3), some (.int x4), none], [.ref (fr x0 2), .ref x0], σ)) r101_349 rfl rfl h1 <| Er.sT (c2 := (353, [some (.ref x0), some (.int x1), some (.int x2), some (.int x3), some (.int x4), none], [.int x2, .ref (fr x0 2), .ref x0], σ)) r101_352 rfl rfl <| Er.st (P := (((fr x0 2) = 41 ∨ (fr x0 2) = 42) ∧ vp_in x2 (ale (fr x0 2)))) (c2 := (354, [some (.ref x0), some (.int x1), some (.int x2), some (.int x3), some (.int x4), none], [.int (gai σ (fr x0 2) x2.toNatClampNeg), .ref x0], σ)) r101_353 rfl (if_neg h2) h3 <| Er.sT (c2 := (355, [some (.ref x0), some (.int x1), some (.int x2), some (.int x3), some (.int x4), none], [.int (4 : Int32), .int (gai σ (fr x0 2) x2.toNatClampNeg), .ref x0], σ)) r101_354 rfl rfl <| (Er.call (vs := [.ref x0, .int (gai σ (fr x0 2) x2.toNatClampNeg), .int (4 : Int32)]) (rest := []) r101_355 rfl rfl (Nat.le_of_ble_eq_true rfl) (Nat.le_of_ble_eq_true rfl) (fun _ => ⟨_, _, rfl, h1⟩) hy k)
theorem b101_358 {d : Nat} {x0 : Nat} {x1 : Int32} {x2 : Int32} {x3 : Int32} {x4 : Int32} {s0 : Int32} {σ : St}  :
    Er (d + 1) 101 (358, [some (.ref x0), some (.int x1), some (.int x2), some (.int x3), some (.int x4), none], [.int s0], σ) (.inl (some (.int s0)), σ, 0) := (Er.ret r101_358 rfl ⟨_, _, rfl, rfl, rfl, rfl⟩)
theorem b101_359 {d : Nat} {q : Rs} {x0 : Nat} {x1 : Int32} {x2 : Int32} {x3 : Int32} {x4 : Int32} {σ : St} {σ2 : St} {r : Int32} (h1 : x0 < 24 ∧ kls x0 = 5)
    (hy : Er d 111 (0, ent 111 [.ref x0, .int x1, .int x2, .int x3], [], σ) (.inl (some (.int r)), σ2, 0))
    (k : Er (d + 1) 101 (366, [some (.ref x0), some (.int x1), some (.int x2), some (.int x3), some (.int x4), none], [.int r], σ2) q) :
    Er (d + 1) 101 (359, [some (.ref x0), some (.int x1), some (.int x2), some (.int x3), some (.int x4), none], [], σ) q := Er.sT (c2 := (360, [some (.ref x0), some (.int x1), some (.int x2), some (.int x3), some (.int x4), none], [.ref x0], σ)) r101_359 rfl rfl <| Er.sT (c2 := (361, [some (.ref x0), some (.int x1), some (.int x2), some (.int x3), some (.int x4), none], [.int x1, .ref x0], σ)) r101_360 rfl rfl <| Er.sT (c2 := (362, [some (.ref x0), some (.int x1), some (.int x2), some (.int x3), some (.int x4), none], [.int x2, .int x1, .ref x0], σ)) r101_361 rfl rfl <| Er.sT (c2 := (363, [some (.ref x0), some (.int x1), some (.int x2), some (.int x3), some (.int x4), none], [.int x3, .int x2, .int x1, .ref x0], σ)) r101_362 rfl rfl <| (Er.call (vs := [.ref x0, .int x1, .int x2, .int x3]) (rest := []) r101_363 rfl rfl (Nat.le_of_ble_eq_true rfl) (Nat.le_of_ble_eq_true rfl) (fun _ => ⟨_, _, rfl, h1⟩) hy k)
theorem b101_366 {d : Nat} {x0 : Nat} {x1 : Int32} {x2 : Int32} {x3 : Int32} {x4 : Int32} {s0 : Int32} {σ : St}  :
    Er (d + 1) 101 (366, [some (.ref x0), some (.int x1), some (.int x2), some (.int x3), some (.int x4), none], [.int s0], σ) (.inl (some (.int s0)), σ, 0) := (Er.ret r101_366 rfl ⟨_, _, rfl, rfl, rfl, rfl⟩)
/-! NumberModelsModel.isNumber(I)Z -/
theorem tab_102 : tab 102 = tb102_0 := rfl
theorem ch102_0 {j : Nat} {r : Row} (h : tb102_0[j]? = some r) : rowAt 102 r.1 = some r := row_mem 102 (by decide) (by rw [tab_102]; exact List.mem_of_getElem? h)
theorem r102_0 : rowAt 102 0 = some (ra 0 1 (.iload_n 1) 1 0 0) := ch102_0 (j := 0) rfl
theorem r102_1 : rowAt 102 1 = some (ra 1 4 (.ifCond .lt 15) 16 0 0) := ch102_0 (j := 1) rfl
theorem r102_4 : rowAt 102 4 = some (ra 4 5 (.iload_n 1) 1 0 0) := ch102_0 (j := 2) rfl
theorem r102_5 : rowAt 102 5 = some (r0 5 6 (.aload_n 0)) := ch102_0 (j := 3) rfl
theorem r102_6 : rowAt 102 6 = some (ra 6 9 (.getfield 65) 1 5 874) := ch102_0 (j := 4) rfl
theorem r102_9 : rowAt 102 9 = some (ra 9 12 (.if_icmp .ge 7) 16 0 0) := ch102_0 (j := 5) rfl
theorem r102_12 : rowAt 102 12 = some (12, 13, .iconst 1, 0, 0, 0, 1, 0) := ch102_0 (j := 6) rfl
theorem r102_13 : rowAt 102 13 = some (ra 13 16 (.goto 4) 17 0 0) := ch102_0 (j := 7) rfl
theorem r102_16 : rowAt 102 16 = some (r0 16 17 (.iconst 0)) := ch102_0 (j := 8) rfl
theorem r102_17 : rowAt 102 17 = some (r0 17 18 (.ireturn)) := ch102_0 (j := 9) rfl
theorem b102_0 {d : Nat} {q : Rs} {x0 : Nat} {x1 : Int32} {σ : St} 
    (kt : x1 < (0 : Int32) → Er (d + 1) 102 (16, [some (.ref x0), some (.int x1)], [], σ) q)
    (kf : ¬ x1 < (0 : Int32) → Er (d + 1) 102 (4, [some (.ref x0), some (.int x1)], [], σ) q) :
    Er (d + 1) 102 (0, [some (.ref x0), some (.int x1)], [], σ) q := Er.sT (c2 := (1, [some (.ref x0), some (.int x1)], [.int x1], σ)) r102_0 rfl rfl <| Er.sT (c2 := (brn .lt x1 (0 : Int32) 16 4, [some (.ref x0), some (.int x1)], [], σ)) r102_1 rfl rfl <| (br_lt kt kf)
theorem b102_4 {d : Nat} {q : Rs} {x0 : Nat} {x1 : Int32} {σ : St} (h1 : x0 < 24 ∧ kls x0 = 5)
    (kt : (gfi σ x0 1) ≤ x1 → Er (d + 1) 102 (16, [some (.ref x0), some (.int x1)], [], σ) q)
    (kf : ¬ (gfi σ x0 1) ≤ x1 → Er (d + 1) 102 (12, [some (.ref x0), some (.int x1)], [], σ) q) :
    Er (d + 1) 102 (4, [some (.ref x0), some (.int x1)], [], σ) q := Er.sT (c2 := (5, [some (.ref x0), some (.int x1)], [.int x1], σ)) r102_4 rfl rfl <| Er.sT (c2 := (6, [some (.ref x0), some (.int x1)], [.ref x0, .int x1], σ)) r102_5 rfl rfl <| Er.st (P := (x0 < 24 ∧ kls x0 = 5)) (c2 := (9, [some (.ref x0), some (.int x1)], [.int (gfi σ x0 1), .int x1], σ)) r102_6 rfl rfl h1 <| Er.sT (c2 := (brn .ge x1 (gfi σ x0 1) 16 12, [some (.ref x0), some (.int x1)], [], σ)) r102_9 rfl rfl <| (br_ge kt kf)
theorem b102_12 {d : Nat} {q : Rs} {x0 : Nat} {x1 : Int32} {σ : St} 
    (k : Er (d + 1) 102 (17, [some (.ref x0), some (.int x1)], [.int (1 : Int32)], σ) q) :
    Er (d + 1) 102 (12, [some (.ref x0), some (.int x1)], [], σ) q := Er.sT (c2 := (13, [some (.ref x0), some (.int x1)], [.int (1 : Int32)], σ)) r102_12 rfl rfl <| Er.sT (c2 := (17, [some (.ref x0), some (.int x1)], [.int (1 : Int32)], σ)) r102_13 rfl rfl <| k
theorem b102_16 {d : Nat} {q : Rs} {x0 : Nat} {x1 : Int32} {σ : St} 
    (k : Er (d + 1) 102 (17, [some (.ref x0), some (.int x1)], [.int (0 : Int32)], σ) q) :
    Er (d + 1) 102 (16, [some (.ref x0), some (.int x1)], [], σ) q := Er.sT (c2 := (17, [some (.ref x0), some (.int x1)], [.int (0 : Int32)], σ)) r102_16 rfl rfl <| k
theorem b102_17 {d : Nat} {x0 : Nat} {x1 : Int32} {s0 : Int32} {σ : St} (hz : narrow .boolean (.int s0) = .int s0) :
    Er (d + 1) 102 (17, [some (.ref x0), some (.int x1)], [.int s0], σ) (.inl (some (.int s0)), σ, 0) := (Er.ret r102_17 rfl ⟨_, _, rfl, rfl, hz, rfl⟩)
/-! NumberModelsModel.isWhole(I)Z -/
theorem tab_103 : tab 103 = tb103_0 := rfl
theorem ch103_0 {j : Nat} {r : Row} (h : tb103_0[j]? = some r) : rowAt 103 r.1 = some r := row_mem 103 (by decide) (by rw [tab_103]; exact List.mem_of_getElem? h)
theorem r103_0 : rowAt 103 0 = some (r0 0 1 (.aload_n 0)) := ch103_0 (j := 0) rfl
theorem r103_1 : rowAt 103 1 = some (ra 1 4 (.getfield 13) 3 5 876) := ch103_0 (j := 1) rfl
theorem r103_4 : rowAt 103 4 = some (4, 6, .bipush 16, 0, 0, 0, 16, 0) := ch103_0 (j := 2) rfl
theorem r103_6 : rowAt 103 6 = some (ra 6 7 (.iload_n 1) 1 0 0) := ch103_0 (j := 3) rfl
theorem r103_7 : rowAt 103 7 = some (r0 7 8 (.imul)) := ch103_0 (j := 4) rfl
theorem r103_8 : rowAt 103 8 = some (8, 10, .bipush 8, 0, 0, 0, 8, 0) := ch103_0 (j := 5) rfl
theorem r103_10 : rowAt 103 10 = some (r0 10 11 (.iadd)) := ch103_0 (j := 6) rfl
theorem r103_11 : rowAt 103 11 = some (r0 11 12 (.laload)) := ch103_0 (j := 7) rfl
theorem r103_12 : rowAt 103 12 = some (12, 13, .lconst 1, 0, 0, 0, 0, 1) := ch103_0 (j := 8) rfl
theorem r103_13 : rowAt 103 13 = some (r0 13 14 (.lcmp)) := ch103_0 (j := 9) rfl
theorem r103_14 : rowAt 103 14 = some (ra 14 17 (.ifCond .ne 7) 21 0 0) := ch103_0 (j := 10) rfl
theorem r103_17 : rowAt 103 17 = some (17, 18, .iconst 1, 0, 0, 0, 1, 0) := ch103_0 (j := 11) rfl
theorem r103_18 : rowAt 103 18 = some (ra 18 21 (.goto 4) 22 0 0) := ch103_0 (j := 12) rfl
theorem r103_21 : rowAt 103 21 = some (r0 21 22 (.iconst 0)) := ch103_0 (j := 13) rfl
theorem r103_22 : rowAt 103 22 = some (ra 22 23 (.istore_n 2) 2 0 0) := ch103_0 (j := 14) rfl
theorem r103_23 : rowAt 103 23 = some (23, 25, .bipush 9, 0, 0, 0, 9, 0) := ch103_0 (j := 15) rfl
theorem r103_25 : rowAt 103 25 = some (ra 25 26 (.istore_n 3) 3 0 0) := ch103_0 (j := 16) rfl
theorem r103_26 : rowAt 103 26 = some (ra 26 27 (.iload_n 3) 3 0 0) := ch103_0 (j := 17) rfl
theorem r103_27 : rowAt 103 27 = some (27, 29, .bipush 16, 0, 0, 0, 16, 0) := ch103_0 (j := 18) rfl
theorem r103_29 : rowAt 103 29 = some (ra 29 32 (.if_icmp .ge 35) 64 0 0) := ch103_0 (j := 19) rfl
theorem r103_32 : rowAt 103 32 = some (ra 32 33 (.iload_n 2) 2 0 0) := ch103_0 (j := 20) rfl
theorem r103_33 : rowAt 103 33 = some (ra 33 36 (.ifCond .eq 23) 56 0 0) := ch103_0 (j := 21) rfl
theorem r103_36 : rowAt 103 36 = some (r0 36 37 (.aload_n 0)) := ch103_0 (j := 22) rfl
theorem r103_37 : rowAt 103 37 = some (ra 37 40 (.getfield 13) 3 5 876) := ch103_0 (j := 23) rfl
theorem r103_40 : rowAt 103 40 = some (40, 42, .bipush 16, 0, 0, 0, 16, 0) := ch103_0 (j := 24) rfl
theorem r103_42 : rowAt 103 42 = some (ra 42 43 (.iload_n 1) 1 0 0) := ch103_0 (j := 25) rfl
theorem r103_43 : rowAt 103 43 = some (r0 43 44 (.imul)) := ch103_0 (j := 26) rfl
theorem r103_44 : rowAt 103 44 = some (ra 44 45 (.iload_n 3) 3 0 0) := ch103_0 (j := 27) rfl
theorem r103_45 : rowAt 103 45 = some (r0 45 46 (.iadd)) := ch103_0 (j := 28) rfl
theorem r103_46 : rowAt 103 46 = some (r0 46 47 (.laload)) := ch103_0 (j := 29) rfl
theorem r103_47 : rowAt 103 47 = some (r0 47 48 (.lconst 0)) := ch103_0 (j := 30) rfl
theorem r103_48 : rowAt 103 48 = some (r0 48 49 (.lcmp)) := ch103_0 (j := 31) rfl
theorem r103_49 : rowAt 103 49 = some (ra 49 52 (.ifCond .ne 7) 56 0 0) := ch103_0 (j := 32) rfl
theorem r103_52 : rowAt 103 52 = some (52, 53, .iconst 1, 0, 0, 0, 1, 0) := ch103_0 (j := 33) rfl
theorem r103_53 : rowAt 103 53 = some (ra 53 56 (.goto 4) 57 0 0) := ch103_0 (j := 34) rfl
theorem r103_56 : rowAt 103 56 = some (r0 56 57 (.iconst 0)) := ch103_0 (j := 35) rfl
theorem r103_57 : rowAt 103 57 = some (ra 57 58 (.istore_n 2) 2 0 0) := ch103_0 (j := 36) rfl
theorem r103_58 : rowAt 103 58 = some (58, 61, .iinc 3 1, 3, 0, 0, 1, 0) := ch103_0 (j := 37) rfl
theorem r103_61 : rowAt 103 61 = some (ra 61 64 (.goto (-35)) 26 0 0) := ch103_0 (j := 38) rfl
theorem r103_64 : rowAt 103 64 = some (ra 64 65 (.iload_n 2) 2 0 0) := ch103_0 (j := 39) rfl
theorem r103_65 : rowAt 103 65 = some (r0 65 66 (.ireturn)) := ch103_0 (j := 40) rfl
theorem b103_0 {d : Nat} {q : Rs} {x0 : Nat} {x1 : Int32} {σ : St} (h1 : x0 < 24 ∧ kls x0 = 5) (h2 : isL (fr x0 3) ∧ vp_in (((16 : Int32) * x1) + (8 : Int32)) (ale (fr x0 3)))
    (kt : ¬ (gal σ (fr x0 3) (((16 : Int32) * x1) + (8 : Int32)).toNatClampNeg) = (1 : Int64) → Er (d + 1) 103 (21, [some (.ref x0), some (.int x1), none, none], [], σ) q)
    (kf : (gal σ (fr x0 3) (((16 : Int32) * x1) + (8 : Int32)).toNatClampNeg) = (1 : Int64) → Er (d + 1) 103 (17, [some (.ref x0), some (.int x1), none, none], [], σ) q) :
    Er (d + 1) 103 (0, [some (.ref x0), some (.int x1), none, none], [], σ) q := Er.sT (c2 := (1, [some (.ref x0), some (.int x1), none, none], [.ref x0], σ)) r103_0 rfl rfl <| Er.st (P := (x0 < 24 ∧ kls x0 = 5)) (c2 := (4, [some (.ref x0), some (.int x1), none, none], [.ref (fr x0 3)], σ)) r103_1 rfl rfl h1 <| Er.sT (c2 := (6, [some (.ref x0), some (.int x1), none, none], [.int (16 : Int32), .ref (fr x0 3)], σ)) r103_4 rfl rfl <| Er.sT (c2 := (7, [some (.ref x0), some (.int x1), none, none], [.int x1, .int (16 : Int32), .ref (fr x0 3)], σ)) r103_6 rfl rfl <| Er.sT (c2 := (8, [some (.ref x0), some (.int x1), none, none], [.int ((16 : Int32) * x1), .ref (fr x0 3)], σ)) r103_7 rfl rfl <| Er.sT (c2 := (10, [some (.ref x0), some (.int x1), none, none], [.int (8 : Int32), .int ((16 : Int32) * x1), .ref (fr x0 3)], σ)) r103_8 rfl rfl <| Er.sT (c2 := (11, [some (.ref x0), some (.int x1), none, none], [.int (((16 : Int32) * x1) + (8 : Int32)), .ref (fr x0 3)], σ)) r103_10 rfl rfl <| Er.st (P := (isL (fr x0 3) ∧ vp_in (((16 : Int32) * x1) + (8 : Int32)) (ale (fr x0 3)))) (c2 := (12, [some (.ref x0), some (.int x1), none, none], [.long (gal σ (fr x0 3) (((16 : Int32) * x1) + (8 : Int32)).toNatClampNeg)], σ)) r103_11 rfl rfl h2 <| Er.sT (c2 := (13, [some (.ref x0), some (.int x1), none, none], [.long (1 : Int64), .long (gal σ (fr x0 3) (((16 : Int32) * x1) + (8 : Int32)).toNatClampNeg)], σ)) r103_12 rfl rfl <| Er.sT (c2 := (14, [some (.ref x0), some (.int x1), none, none], [.int (lg_cmp (gal σ (fr x0 3) (((16 : Int32) * x1) + (8 : Int32)).toNatClampNeg) (1 : Int64))], σ)) r103_13 rfl rfl <| Er.sT (c2 := (brn .ne (lg_cmp (gal σ (fr x0 3) (((16 : Int32) * x1) + (8 : Int32)).toNatClampNeg) (1 : Int64)) (0 : Int32) 21 17, [some (.ref x0), some (.int x1), none, none], [], σ)) r103_14 rfl rfl <| (bl_ne kt kf)
theorem b103_17 {d : Nat} {q : Rs} {x0 : Nat} {x1 : Int32} {σ : St} 
    (k : Er (d + 1) 103 (22, [some (.ref x0), some (.int x1), none, none], [.int (1 : Int32)], σ) q) :
    Er (d + 1) 103 (17, [some (.ref x0), some (.int x1), none, none], [], σ) q := Er.sT (c2 := (18, [some (.ref x0), some (.int x1), none, none], [.int (1 : Int32)], σ)) r103_17 rfl rfl <| Er.sT (c2 := (22, [some (.ref x0), some (.int x1), none, none], [.int (1 : Int32)], σ)) r103_18 rfl rfl <| k
theorem b103_21 {d : Nat} {q : Rs} {x0 : Nat} {x1 : Int32} {σ : St} 
    (k : Er (d + 1) 103 (22, [some (.ref x0), some (.int x1), none, none], [.int (0 : Int32)], σ) q) :
    Er (d + 1) 103 (21, [some (.ref x0), some (.int x1), none, none], [], σ) q := Er.sT (c2 := (22, [some (.ref x0), some (.int x1), none, none], [.int (0 : Int32)], σ)) r103_21 rfl rfl <| k
theorem b103_22 {d : Nat} {q : Rs} {x0 : Nat} {x1 : Int32} {s0 : Int32} {σ : St} 
    (k : Er (d + 1) 103 (26, [some (.ref x0), some (.int x1), some (.int s0), some (.int (9 : Int32))], [], σ) q) :
    Er (d + 1) 103 (22, [some (.ref x0), some (.int x1), none, none], [.int s0], σ) q := Er.sT (c2 := (23, [some (.ref x0), some (.int x1), some (.int s0), none], [], σ)) r103_22 rfl rfl <| Er.sT (c2 := (25, [some (.ref x0), some (.int x1), some (.int s0), none], [.int (9 : Int32)], σ)) r103_23 rfl rfl <| Er.sT (c2 := (26, [some (.ref x0), some (.int x1), some (.int s0), some (.int (9 : Int32))], [], σ)) r103_25 rfl rfl <| k
theorem b103_26 {d : Nat} {q : Rs} {x0 : Nat} {x1 : Int32} {x2 : Int32} {x3 : Int32} {σ : St} 
    (kt : (16 : Int32) ≤ x3 → Er (d + 1) 103 (64, [some (.ref x0), some (.int x1), some (.int x2), some (.int x3)], [], σ) q)
    (kf : ¬ (16 : Int32) ≤ x3 → Er (d + 1) 103 (32, [some (.ref x0), some (.int x1), some (.int x2), some (.int x3)], [], σ) q) :
    Er (d + 1) 103 (26, [some (.ref x0), some (.int x1), some (.int x2), some (.int x3)], [], σ) q := Er.sT (c2 := (27, [some (.ref x0), some (.int x1), some (.int x2), some (.int x3)], [.int x3], σ)) r103_26 rfl rfl <| Er.sT (c2 := (29, [some (.ref x0), some (.int x1), some (.int x2), some (.int x3)], [.int (16 : Int32), .int x3], σ)) r103_27 rfl rfl <| Er.sT (c2 := (brn .ge x3 (16 : Int32) 64 32, [some (.ref x0), some (.int x1), some (.int x2), some (.int x3)], [], σ)) r103_29 rfl rfl <| (br_ge kt kf)
theorem b103_32 {d : Nat} {q : Rs} {x0 : Nat} {x1 : Int32} {x2 : Int32} {x3 : Int32} {σ : St} 
    (kt : x2 = (0 : Int32) → Er (d + 1) 103 (56, [some (.ref x0), some (.int x1), some (.int x2), some (.int x3)], [], σ) q)
    (kf : ¬ x2 = (0 : Int32) → Er (d + 1) 103 (36, [some (.ref x0), some (.int x1), some (.int x2), some (.int x3)], [], σ) q) :
    Er (d + 1) 103 (32, [some (.ref x0), some (.int x1), some (.int x2), some (.int x3)], [], σ) q := Er.sT (c2 := (33, [some (.ref x0), some (.int x1), some (.int x2), some (.int x3)], [.int x2], σ)) r103_32 rfl rfl <| Er.sT (c2 := (brn .eq x2 (0 : Int32) 56 36, [some (.ref x0), some (.int x1), some (.int x2), some (.int x3)], [], σ)) r103_33 rfl rfl <| (br_eq kt kf)
theorem b103_36 {d : Nat} {q : Rs} {x0 : Nat} {x1 : Int32} {x2 : Int32} {x3 : Int32} {σ : St} (h1 : x0 < 24 ∧ kls x0 = 5) (h2 : isL (fr x0 3) ∧ vp_in (((16 : Int32) * x1) + x3) (ale (fr x0 3)))
    (kt : ¬ (gal σ (fr x0 3) (((16 : Int32) * x1) + x3).toNatClampNeg) = (0 : Int64) → Er (d + 1) 103 (56, [some (.ref x0), some (.int x1), some (.int x2), some (.int x3)], [], σ) q)
    (kf : (gal σ (fr x0 3) (((16 : Int32) * x1) + x3).toNatClampNeg) = (0 : Int64) → Er (d + 1) 103 (52, [some (.ref x0), some (.int x1), some (.int x2), some (.int x3)], [], σ) q) :
    Er (d + 1) 103 (36, [some (.ref x0), some (.int x1), some (.int x2), some (.int x3)], [], σ) q := Er.sT (c2 := (37, [some (.ref x0), some (.int x1), some (.int x2), some (.int x3)], [.ref x0], σ)) r103_36 rfl rfl <| Er.st (P := (x0 < 24 ∧ kls x0 = 5)) (c2 := (40, [some (.ref x0), some (.int x1), some (.int x2), some (.int x3)], [.ref (fr x0 3)], σ)) r103_37 rfl rfl h1 <| Er.sT (c2 := (42, [some (.ref x0), some (.int x1), some (.int x2), some (.int x3)], [.int (16 : Int32), .ref (fr x0 3)], σ)) r103_40 rfl rfl <| Er.sT (c2 := (43, [some (.ref x0), some (.int x1), some (.int x2), some (.int x3)], [.int x1, .int (16 : Int32), .ref (fr x0 3)], σ)) r103_42 rfl rfl <| Er.sT (c2 := (44, [some (.ref x0), some (.int x1), some (.int x2), some (.int x3)], [.int ((16 : Int32) * x1), .ref (fr x0 3)], σ)) r103_43 rfl rfl <| Er.sT (c2 := (45, [some (.ref x0), some (.int x1), some (.int x2), some (.int x3)], [.int x3, .int ((16 : Int32) * x1), .ref (fr x0 3)], σ)) r103_44 rfl rfl <| Er.sT (c2 := (46, [some (.ref x0), some (.int x1), some (.int x2), some (.int x3)], [.int (((16 : Int32) * x1) + x3), .ref (fr x0 3)], σ)) r103_45 rfl rfl <| Er.st (P := (isL (fr x0 3) ∧ vp_in (((16 : Int32) * x1) + x3) (ale (fr x0 3)))) (c2 := (47, [some (.ref x0), some (.int x1), some (.int x2), some (.int x3)], [.long (gal σ (fr x0 3) (((16 : Int32) * x1) + x3).toNatClampNeg)], σ)) r103_46 rfl rfl h2 <| Er.sT (c2 := (48, [some (.ref x0), some (.int x1), some (.int x2), some (.int x3)], [.long (0 : Int64), .long (gal σ (fr x0 3) (((16 : Int32) * x1) + x3).toNatClampNeg)], σ)) r103_47 rfl rfl <| Er.sT (c2 := (49, [some (.ref x0), some (.int x1), some (.int x2), some (.int x3)], [.int (lg_cmp (gal σ (fr x0 3) (((16 : Int32) * x1) + x3).toNatClampNeg) (0 : Int64))], σ)) r103_48 rfl rfl <| Er.sT (c2 := (brn .ne (lg_cmp (gal σ (fr x0 3) (((16 : Int32) * x1) + x3).toNatClampNeg) (0 : Int64)) (0 : Int32) 56 52, [some (.ref x0), some (.int x1), some (.int x2), some (.int x3)], [], σ)) r103_49 rfl rfl <| (bl_ne kt kf)
theorem b103_52 {d : Nat} {q : Rs} {x0 : Nat} {x1 : Int32} {x2 : Int32} {x3 : Int32} {σ : St} 
    (k : Er (d + 1) 103 (57, [some (.ref x0), some (.int x1), some (.int x2), some (.int x3)], [.int (1 : Int32)], σ) q) :
    Er (d + 1) 103 (52, [some (.ref x0), some (.int x1), some (.int x2), some (.int x3)], [], σ) q := Er.sT (c2 := (53, [some (.ref x0), some (.int x1), some (.int x2), some (.int x3)], [.int (1 : Int32)], σ)) r103_52 rfl rfl <| Er.sT (c2 := (57, [some (.ref x0), some (.int x1), some (.int x2), some (.int x3)], [.int (1 : Int32)], σ)) r103_53 rfl rfl <| k
theorem b103_56 {d : Nat} {q : Rs} {x0 : Nat} {x1 : Int32} {x2 : Int32} {x3 : Int32} {σ : St} 
    (k : Er (d + 1) 103 (57, [some (.ref x0), some (.int x1), some (.int x2), some (.int x3)], [.int (0 : Int32)], σ) q) :
    Er (d + 1) 103 (56, [some (.ref x0), some (.int x1), some (.int x2), some (.int x3)], [], σ) q := Er.sT (c2 := (57, [some (.ref x0), some (.int x1), some (.int x2), some (.int x3)], [.int (0 : Int32)], σ)) r103_56 rfl rfl <| k
theorem b103_57 {d : Nat} {q : Rs} {x0 : Nat} {x1 : Int32} {x2 : Int32} {x3 : Int32} {s0 : Int32} {σ : St} 
    (k : Er (d + 1) 103 (26, [some (.ref x0), some (.int x1), some (.int s0), some (.int (x3 + (1 : Int32)))], [], σ) q) :
    Er (d + 1) 103 (57, [some (.ref x0), some (.int x1), some (.int x2), some (.int x3)], [.int s0], σ) q := Er.sT (c2 := (58, [some (.ref x0), some (.int x1), some (.int s0), some (.int x3)], [], σ)) r103_57 rfl rfl <| Er.sT (c2 := (61, [some (.ref x0), some (.int x1), some (.int s0), some (.int (x3 + (1 : Int32)))], [], σ)) r103_58 rfl rfl <| Er.sT (c2 := (26, [some (.ref x0), some (.int x1), some (.int s0), some (.int (x3 + (1 : Int32)))], [], σ)) r103_61 rfl rfl <| k
theorem b103_64 {d : Nat} {x0 : Nat} {x1 : Int32} {x2 : Int32} {x3 : Int32} {σ : St} (hz : narrow .boolean (.int x2) = .int x2) :
    Er (d + 1) 103 (64, [some (.ref x0), some (.int x1), some (.int x2), some (.int x3)], [], σ) (.inl (some (.int x2)), σ, 0) := Er.sT (c2 := (65, [some (.ref x0), some (.int x1), some (.int x2), some (.int x3)], [.int x2], σ)) r103_64 rfl rfl <| (Er.ret r103_65 rfl ⟨_, _, rfl, rfl, hz, rfl⟩)
/-! NumberModelsModel.isSmall(II)Z -/
theorem tab_104 : tab 104 = tb104_0 ++ tb104_1 := rfl
theorem ch104_0 {j : Nat} {r : Row} (h : tb104_0[j]? = some r) : rowAt 104 r.1 = some r := row_mem 104 (by decide) (by rw [tab_104]; exact (List.mem_append_left _ (List.mem_of_getElem? h)))
theorem ch104_1 {j : Nat} {r : Row} (h : tb104_1[j]? = some r) : rowAt 104 r.1 = some r := row_mem 104 (by decide) (by rw [tab_104]; exact (List.mem_append_right _ (List.mem_of_getElem? h)))
theorem r104_0 : rowAt 104 0 = some (r0 0 1 (.aload_n 0)) := ch104_0 (j := 0) rfl
theorem r104_1 : rowAt 104 1 = some (ra 1 2 (.iload_n 1) 1 0 0) := ch104_0 (j := 1) rfl
theorem r104_2 : rowAt 104 2 = some (ra 2 5 (.invokevirtual 111) 103 2 1014) := ch104_0 (j := 2) rfl
theorem r104_5 : rowAt 104 5 = some (ra 5 8 (.ifCond .eq 22) 27 0 0) := ch104_0 (j := 3) rfl
theorem r104_8 : rowAt 104 8 = some (r0 8 9 (.aload_n 0)) := ch104_0 (j := 4) rfl
theorem r104_9 : rowAt 104 9 = some (ra 9 12 (.getfield 13) 3 5 876) := ch104_0 (j := 5) rfl
theorem r104_12 : rowAt 104 12 = some (12, 14, .bipush 16, 0, 0, 0, 16, 0) := ch104_0 (j := 6) rfl
theorem r104_14 : rowAt 104 14 = some (ra 14 15 (.iload_n 1) 1 0 0) := ch104_0 (j := 7) rfl
theorem r104_15 : rowAt 104 15 = some (r0 15 16 (.imul)) := ch104_0 (j := 8) rfl
theorem r104_16 : rowAt 104 16 = some (r0 16 17 (.laload)) := ch104_0 (j := 9) rfl
theorem r104_17 : rowAt 104 17 = some (ra 17 18 (.iload_n 2) 2 0 0) := ch104_0 (j := 10) rfl
theorem r104_18 : rowAt 104 18 = some (r0 18 19 (.i2l)) := ch104_0 (j := 11) rfl
theorem r104_19 : rowAt 104 19 = some (r0 19 20 (.lcmp)) := ch104_0 (j := 12) rfl
theorem r104_20 : rowAt 104 20 = some (ra 20 23 (.ifCond .gt 7) 27 0 0) := ch104_0 (j := 13) rfl
theorem r104_23 : rowAt 104 23 = some (23, 24, .iconst 1, 0, 0, 0, 1, 0) := ch104_0 (j := 14) rfl
theorem r104_24 : rowAt 104 24 = some (ra 24 27 (.goto 4) 28 0 0) := ch104_0 (j := 15) rfl
theorem r104_27 : rowAt 104 27 = some (r0 27 28 (.iconst 0)) := ch104_0 (j := 16) rfl
theorem r104_28 : rowAt 104 28 = some (ra 28 29 (.istore_n 3) 3 0 0) := ch104_0 (j := 17) rfl
theorem r104_29 : rowAt 104 29 = some (29, 30, .iconst 1, 0, 0, 0, 1, 0) := ch104_0 (j := 18) rfl
theorem r104_30 : rowAt 104 30 = some (ra 30 32 (.istore 4) 4 0 0) := ch104_0 (j := 19) rfl
theorem r104_32 : rowAt 104 32 = some (ra 32 34 (.iload 4) 4 0 0) := ch104_0 (j := 20) rfl
theorem r104_34 : rowAt 104 34 = some (34, 36, .bipush 8, 0, 0, 0, 8, 0) := ch104_0 (j := 21) rfl
theorem r104_36 : rowAt 104 36 = some (ra 36 39 (.if_icmp .ge 36) 72 0 0) := ch104_0 (j := 22) rfl
theorem r104_39 : rowAt 104 39 = some (ra 39 40 (.iload_n 3) 3 0 0) := ch104_0 (j := 23) rfl
theorem r104_40 : rowAt 104 40 = some (ra 40 43 (.ifCond .eq 24) 64 0 0) := ch104_0 (j := 24) rfl
theorem r104_43 : rowAt 104 43 = some (r0 43 44 (.aload_n 0)) := ch104_0 (j := 25) rfl
theorem r104_44 : rowAt 104 44 = some (ra 44 47 (.getfield 13) 3 5 876) := ch104_0 (j := 26) rfl
theorem r104_47 : rowAt 104 47 = some (47, 49, .bipush 16, 0, 0, 0, 16, 0) := ch104_0 (j := 27) rfl
theorem r104_49 : rowAt 104 49 = some (ra 49 50 (.iload_n 1) 1 0 0) := ch104_0 (j := 28) rfl
theorem r104_50 : rowAt 104 50 = some (r0 50 51 (.imul)) := ch104_0 (j := 29) rfl
theorem r104_51 : rowAt 104 51 = some (ra 51 53 (.iload 4) 4 0 0) := ch104_0 (j := 30) rfl
theorem r104_53 : rowAt 104 53 = some (r0 53 54 (.iadd)) := ch104_0 (j := 31) rfl
theorem r104_54 : rowAt 104 54 = some (r0 54 55 (.laload)) := ch104_0 (j := 32) rfl
theorem r104_55 : rowAt 104 55 = some (r0 55 56 (.lconst 0)) := ch104_0 (j := 33) rfl
theorem r104_56 : rowAt 104 56 = some (r0 56 57 (.lcmp)) := ch104_0 (j := 34) rfl
theorem r104_57 : rowAt 104 57 = some (ra 57 60 (.ifCond .ne 7) 64 0 0) := ch104_0 (j := 35) rfl
theorem r104_60 : rowAt 104 60 = some (60, 61, .iconst 1, 0, 0, 0, 1, 0) := ch104_0 (j := 36) rfl
theorem r104_61 : rowAt 104 61 = some (ra 61 64 (.goto 4) 65 0 0) := ch104_0 (j := 37) rfl
theorem r104_64 : rowAt 104 64 = some (r0 64 65 (.iconst 0)) := ch104_0 (j := 38) rfl
theorem r104_65 : rowAt 104 65 = some (ra 65 66 (.istore_n 3) 3 0 0) := ch104_0 (j := 39) rfl
theorem r104_66 : rowAt 104 66 = some (66, 69, .iinc 4 1, 4, 0, 0, 1, 0) := ch104_0 (j := 40) rfl
theorem r104_69 : rowAt 104 69 = some (ra 69 72 (.goto (-37)) 32 0 0) := ch104_0 (j := 41) rfl
theorem r104_72 : rowAt 104 72 = some (r0 72 73 (.aload_n 0)) := ch104_0 (j := 42) rfl
theorem r104_73 : rowAt 104 73 = some (ra 73 74 (.iload_n 3) 3 0 0) := ch104_0 (j := 43) rfl
theorem r104_74 : rowAt 104 74 = some (ra 74 77 (.ifCond .eq 23) 97 0 0) := ch104_0 (j := 44) rfl
theorem r104_77 : rowAt 104 77 = some (r0 77 78 (.aload_n 0)) := ch104_0 (j := 45) rfl
theorem r104_78 : rowAt 104 78 = some (ra 78 81 (.getfield 7) 2 5 875) := ch104_0 (j := 46) rfl
theorem r104_81 : rowAt 104 81 = some (ra 81 82 (.iload_n 1) 1 0 0) := ch104_0 (j := 47) rfl
theorem r104_82 : rowAt 104 82 = some (r0 82 83 (.iaload)) := ch104_0 (j := 48) rfl
theorem r104_83 : rowAt 104 83 = some (r0 83 84 (.aload_n 0)) := ch104_0 (j := 49) rfl
theorem r104_84 : rowAt 104 84 = some (ra 84 87 (.getfield 13) 3 5 876) := ch104_0 (j := 50) rfl
theorem r104_87 : rowAt 104 87 = some (87, 89, .bipush 16, 0, 0, 0, 16, 0) := ch104_0 (j := 51) rfl
theorem r104_89 : rowAt 104 89 = some (ra 89 90 (.iload_n 1) 1 0 0) := ch104_0 (j := 52) rfl
theorem r104_90 : rowAt 104 90 = some (r0 90 91 (.imul)) := ch104_0 (j := 53) rfl
theorem r104_91 : rowAt 104 91 = some (r0 91 92 (.laload)) := ch104_0 (j := 54) rfl
theorem r104_92 : rowAt 104 92 = some (r0 92 93 (.l2i)) := ch104_0 (j := 55) rfl
theorem r104_93 : rowAt 104 93 = some (r0 93 94 (.imul)) := ch104_0 (j := 56) rfl
theorem r104_94 : rowAt 104 94 = some (ra 94 97 (.goto 4) 98 0 0) := ch104_0 (j := 57) rfl
theorem r104_97 : rowAt 104 97 = some (r0 97 98 (.iconst 0)) := ch104_0 (j := 58) rfl
theorem r104_98 : rowAt 104 98 = some (ra 98 101 (.putfield 114) 5 5 878) := ch104_0 (j := 59) rfl
theorem r104_101 : rowAt 104 101 = some (ra 101 102 (.iload_n 3) 3 0 0) := ch104_1 (j := 0) rfl
theorem r104_102 : rowAt 104 102 = some (r0 102 103 (.ireturn)) := ch104_1 (j := 1) rfl
theorem b104_0 {d : Nat} {q : Rs} {x0 : Nat} {x1 : Int32} {x2 : Int32} {σ : St} {σ2 : St} {r : Int32} (h1 : x0 < 24 ∧ kls x0 = 5)
    (hy : Er d 103 (0, ent 103 [.ref x0, .int x1], [], σ) (.inl (some (.int r)), σ2, 0))
    (k : Er (d + 1) 104 (5, [some (.ref x0), some (.int x1), some (.int x2), none, none], [.int r], σ2) q) :
    Er (d + 1) 104 (0, [some (.ref x0), some (.int x1), some (.int x2), none, none], [], σ) q := Er.sT (c2 := (1, [some (.ref x0), some (.int x1), some (.int x2), none, none], [.ref x0], σ)) r104_0 rfl rfl <| Er.sT (c2 := (2, [some (.ref x0), some (.int x1), some (.int x2), none, none], [.int x1, .ref x0], σ)) r104_1 rfl rfl <| (Er.call (vs := [.ref x0, .int x1]) (rest := []) r104_2 rfl rfl (Nat.le_of_ble_eq_true rfl) (Nat.le_of_ble_eq_true rfl) (fun _ => ⟨_, _, rfl, h1⟩) hy k)
theorem b104_5 {d : Nat} {q : Rs} {x0 : Nat} {x1 : Int32} {x2 : Int32} {s0 : Int32} {σ : St} 
    (kt : s0 = (0 : Int32) → Er (d + 1) 104 (27, [some (.ref x0), some (.int x1), some (.int x2), none, none], [], σ) q)
    (kf : ¬ s0 = (0 : Int32) → Er (d + 1) 104 (8, [some (.ref x0), some (.int x1), some (.int x2), none, none], [], σ) q) :
    Er (d + 1) 104 (5, [some (.ref x0), some (.int x1), some (.int x2), none, none], [.int s0], σ) q := Er.sT (c2 := (brn .eq s0 (0 : Int32) 27 8, [some (.ref x0), some (.int x1), some (.int x2), none, none], [], σ)) r104_5 rfl rfl <| (br_eq kt kf)
theorem b104_8 {d : Nat} {q : Rs} {x0 : Nat} {x1 : Int32} {x2 : Int32} {σ : St} (h1 : x0 < 24 ∧ kls x0 = 5) (h2 : isL (fr x0 3) ∧ vp_in ((16 : Int32) * x1) (ale (fr x0 3)))
    (kt : (x2.toInt64) < (gal σ (fr x0 3) ((16 : Int32) * x1).toNatClampNeg) → Er (d + 1) 104 (27, [some (.ref x0), some (.int x1), some (.int x2), none, none], [], σ) q)
    (kf : ¬ (x2.toInt64) < (gal σ (fr x0 3) ((16 : Int32) * x1).toNatClampNeg) → Er (d + 1) 104 (23, [some (.ref x0), some (.int x1), some (.int x2), none, none], [], σ) q) :
    Er (d + 1) 104 (8, [some (.ref x0), some (.int x1), some (.int x2), none, none], [], σ) q := Er.sT (c2 := (9, [some (.ref x0), some (.int x1), some (.int x2), none, none], [.ref x0], σ)) r104_8 rfl rfl <| Er.st (P := (x0 < 24 ∧ kls x0 = 5)) (c2 := (12, [some (.ref x0), some (.int x1), some (.int x2), none, none], [.ref (fr x0 3)], σ)) r104_9 rfl rfl h1 <| Er.sT (c2 := (14, [some (.ref x0), some (.int x1), some (.int x2), none, none], [.int (16 : Int32), .ref (fr x0 3)], σ)) r104_12 rfl rfl <| Er.sT (c2 := (15, [some (.ref x0), some (.int x1), some (.int x2), none, none], [.int x1, .int (16 : Int32), .ref (fr x0 3)], σ)) r104_14 rfl rfl <| Er.sT (c2 := (16, [some (.ref x0), some (.int x1), some (.int x2), none, none], [.int ((16 : Int32) * x1), .ref (fr x0 3)], σ)) r104_15 rfl rfl <| Er.st (P := (isL (fr x0 3) ∧ vp_in ((16 : Int32) * x1) (ale (fr x0 3)))) (c2 := (17, [some (.ref x0), some (.int x1), some (.int x2), none, none], [.long (gal σ (fr x0 3) ((16 : Int32) * x1).toNatClampNeg)], σ)) r104_16 rfl rfl h2 <| Er.sT (c2 := (18, [some (.ref x0), some (.int x1), some (.int x2), none, none], [.int x2, .long (gal σ (fr x0 3) ((16 : Int32) * x1).toNatClampNeg)], σ)) r104_17 rfl rfl <| Er.sT (c2 := (19, [some (.ref x0), some (.int x1), some (.int x2), none, none], [.long (x2.toInt64), .long (gal σ (fr x0 3) ((16 : Int32) * x1).toNatClampNeg)], σ)) r104_18 rfl rfl <| Er.sT (c2 := (20, [some (.ref x0), some (.int x1), some (.int x2), none, none], [.int (lg_cmp (gal σ (fr x0 3) ((16 : Int32) * x1).toNatClampNeg) (x2.toInt64))], σ)) r104_19 rfl rfl <| Er.sT (c2 := (brn .gt (lg_cmp (gal σ (fr x0 3) ((16 : Int32) * x1).toNatClampNeg) (x2.toInt64)) (0 : Int32) 27 23, [some (.ref x0), some (.int x1), some (.int x2), none, none], [], σ)) r104_20 rfl rfl <| (bl_gt kt kf)
theorem b104_23 {d : Nat} {q : Rs} {x0 : Nat} {x1 : Int32} {x2 : Int32} {σ : St} 
    (k : Er (d + 1) 104 (28, [some (.ref x0), some (.int x1), some (.int x2), none, none], [.int (1 : Int32)], σ) q) :
    Er (d + 1) 104 (23, [some (.ref x0), some (.int x1), some (.int x2), none, none], [], σ) q := Er.sT (c2 := (24, [some (.ref x0), some (.int x1), some (.int x2), none, none], [.int (1 : Int32)], σ)) r104_23 rfl rfl <| Er.sT (c2 := (28, [some (.ref x0), some (.int x1), some (.int x2), none, none], [.int (1 : Int32)], σ)) r104_24 rfl rfl <| k
theorem b104_27 {d : Nat} {q : Rs} {x0 : Nat} {x1 : Int32} {x2 : Int32} {σ : St} 
    (k : Er (d + 1) 104 (28, [some (.ref x0), some (.int x1), some (.int x2), none, none], [.int (0 : Int32)], σ) q) :
    Er (d + 1) 104 (27, [some (.ref x0), some (.int x1), some (.int x2), none, none], [], σ) q := Er.sT (c2 := (28, [some (.ref x0), some (.int x1), some (.int x2), none, none], [.int (0 : Int32)], σ)) r104_27 rfl rfl <| k
theorem b104_28 {d : Nat} {q : Rs} {x0 : Nat} {x1 : Int32} {x2 : Int32} {s0 : Int32} {σ : St} 
    (k : Er (d + 1) 104 (32, [some (.ref x0), some (.int x1), some (.int x2), some (.int s0), some (.int (1 : Int32))], [], σ) q) :
    Er (d + 1) 104 (28, [some (.ref x0), some (.int x1), some (.int x2), none, none], [.int s0], σ) q := Er.sT (c2 := (29, [some (.ref x0), some (.int x1), some (.int x2), some (.int s0), none], [], σ)) r104_28 rfl rfl <| Er.sT (c2 := (30, [some (.ref x0), some (.int x1), some (.int x2), some (.int s0), none], [.int (1 : Int32)], σ)) r104_29 rfl rfl <| Er.sT (c2 := (32, [some (.ref x0), some (.int x1), some (.int x2), some (.int s0), some (.int (1 : Int32))], [], σ)) r104_30 rfl rfl <| k
theorem b104_32 {d : Nat} {q : Rs} {x0 : Nat} {x1 : Int32} {x2 : Int32} {x3 : Int32} {x4 : Int32} {σ : St} 
    (kt : (8 : Int32) ≤ x4 → Er (d + 1) 104 (72, [some (.ref x0), some (.int x1), some (.int x2), some (.int x3), some (.int x4)], [], σ) q)
    (kf : ¬ (8 : Int32) ≤ x4 → Er (d + 1) 104 (39, [some (.ref x0), some (.int x1), some (.int x2), some (.int x3), some (.int x4)], [], σ) q) :
    Er (d + 1) 104 (32, [some (.ref x0), some (.int x1), some (.int x2), some (.int x3), some (.int x4)], [], σ) q := Er.sT (c2 := (34, [some (.ref x0), some (.int x1), some (.int x2), some (.int x3), some (.int x4)], [.int x4], σ)) r104_32 rfl rfl <| Er.sT (c2 := (36, [some (.ref x0), some (.int x1), some (.int x2), some (.int x3), some (.int x4)], [.int (8 : Int32), .int x4], σ)) r104_34 rfl rfl <| Er.sT (c2 := (brn .ge x4 (8 : Int32) 72 39, [some (.ref x0), some (.int x1), some (.int x2), some (.int x3), some (.int x4)], [], σ)) r104_36 rfl rfl <| (br_ge kt kf)
theorem b104_39 {d : Nat} {q : Rs} {x0 : Nat} {x1 : Int32} {x2 : Int32} {x3 : Int32} {x4 : Int32} {σ : St} 
    (kt : x3 = (0 : Int32) → Er (d + 1) 104 (64, [some (.ref x0), some (.int x1), some (.int x2), some (.int x3), some (.int x4)], [], σ) q)
    (kf : ¬ x3 = (0 : Int32) → Er (d + 1) 104 (43, [some (.ref x0), some (.int x1), some (.int x2), some (.int x3), some (.int x4)], [], σ) q) :
    Er (d + 1) 104 (39, [some (.ref x0), some (.int x1), some (.int x2), some (.int x3), some (.int x4)], [], σ) q := Er.sT (c2 := (40, [some (.ref x0), some (.int x1), some (.int x2), some (.int x3), some (.int x4)], [.int x3], σ)) r104_39 rfl rfl <| Er.sT (c2 := (brn .eq x3 (0 : Int32) 64 43, [some (.ref x0), some (.int x1), some (.int x2), some (.int x3), some (.int x4)], [], σ)) r104_40 rfl rfl <| (br_eq kt kf)
theorem b104_43 {d : Nat} {q : Rs} {x0 : Nat} {x1 : Int32} {x2 : Int32} {x3 : Int32} {x4 : Int32} {σ : St} (h1 : x0 < 24 ∧ kls x0 = 5) (h2 : isL (fr x0 3) ∧ vp_in (((16 : Int32) * x1) + x4) (ale (fr x0 3)))
    (kt : ¬ (gal σ (fr x0 3) (((16 : Int32) * x1) + x4).toNatClampNeg) = (0 : Int64) → Er (d + 1) 104 (64, [some (.ref x0), some (.int x1), some (.int x2), some (.int x3), some (.int x4)], [], σ) q)
    (kf : (gal σ (fr x0 3) (((16 : Int32) * x1) + x4).toNatClampNeg) = (0 : Int64) → Er (d + 1) 104 (60, [some (.ref x0), some (.int x1), some (.int x2), some (.int x3), some (.int x4)], [], σ) q) :
    Er (d + 1) 104 (43, [some (.ref x0), some (.int x1), some (.int x2), some (.int x3), some (.int x4)], [], σ) q := Er.sT (c2 := (44, [some (.ref x0), some (.int x1), some (.int x2), some (.int x3), some (.int x4)], [.ref x0], σ)) r104_43 rfl rfl <| Er.st (P := (x0 < 24 ∧ kls x0 = 5)) (c2 := (47, [some (.ref x0), some (.int x1), some (.int x2), some (.int x3), some (.int x4)], [.ref (fr x0 3)], σ)) r104_44 rfl rfl h1 <| Er.sT (c2 := (49, [some (.ref x0), some (.int x1), some (.int x2), some (.int x3), some (.int x4)], [.int (16 : Int32), .ref (fr x0 3)], σ)) r104_47 rfl rfl <| Er.sT (c2 := (50, [some (.ref x0), some (.int x1), some (.int x2), some (.int x3), some (.int x4)], [.int x1, .int (16 : Int32), .ref (fr x0 3)], σ)) r104_49 rfl rfl <| Er.sT (c2 := (51, [some (.ref x0), some (.int x1), some (.int x2), some (.int x3), some (.int x4)], [.int ((16 : Int32) * x1), .ref (fr x0 3)], σ)) r104_50 rfl rfl <| Er.sT (c2 := (53, [some (.ref x0), some (.int x1), some (.int x2), some (.int x3), some (.int x4)], [.int x4, .int ((16 : Int32) * x1), .ref (fr x0 3)], σ)) r104_51 rfl rfl <| Er.sT (c2 := (54, [some (.ref x0), some (.int x1), some (.int x2), some (.int x3), some (.int x4)], [.int (((16 : Int32) * x1) + x4), .ref (fr x0 3)], σ)) r104_53 rfl rfl <| Er.st (P := (isL (fr x0 3) ∧ vp_in (((16 : Int32) * x1) + x4) (ale (fr x0 3)))) (c2 := (55, [some (.ref x0), some (.int x1), some (.int x2), some (.int x3), some (.int x4)], [.long (gal σ (fr x0 3) (((16 : Int32) * x1) + x4).toNatClampNeg)], σ)) r104_54 rfl rfl h2 <| Er.sT (c2 := (56, [some (.ref x0), some (.int x1), some (.int x2), some (.int x3), some (.int x4)], [.long (0 : Int64), .long (gal σ (fr x0 3) (((16 : Int32) * x1) + x4).toNatClampNeg)], σ)) r104_55 rfl rfl <| Er.sT (c2 := (57, [some (.ref x0), some (.int x1), some (.int x2), some (.int x3), some (.int x4)], [.int (lg_cmp (gal σ (fr x0 3) (((16 : Int32) * x1) + x4).toNatClampNeg) (0 : Int64))], σ)) r104_56 rfl rfl <| Er.sT (c2 := (brn .ne (lg_cmp (gal σ (fr x0 3) (((16 : Int32) * x1) + x4).toNatClampNeg) (0 : Int64)) (0 : Int32) 64 60, [some (.ref x0), some (.int x1), some (.int x2), some (.int x3), some (.int x4)], [], σ)) r104_57 rfl rfl <| (bl_ne kt kf)
theorem b104_60 {d : Nat} {q : Rs} {x0 : Nat} {x1 : Int32} {x2 : Int32} {x3 : Int32} {x4 : Int32} {σ : St} 
    (k : Er (d + 1) 104 (65, [some (.ref x0), some (.int x1), some (.int x2), some (.int x3), some (.int x4)], [.int (1 : Int32)], σ) q) :
    Er (d + 1) 104 (60, [some (.ref x0), some (.int x1), some (.int x2), some (.int x3), some (.int x4)], [], σ) q := Er.sT (c2 := (61, [some (.ref x0), some (.int x1), some (.int x2), some (.int x3), some (.int x4)], [.int (1 : Int32)], σ)) r104_60 rfl rfl <| Er.sT (c2 := (65, [some (.ref x0), some (.int x1), some (.int x2), some (.int x3), some (.int x4)], [.int (1 : Int32)], σ)) r104_61 rfl rfl <| k
theorem b104_64 {d : Nat} {q : Rs} {x0 : Nat} {x1 : Int32} {x2 : Int32} {x3 : Int32} {x4 : Int32} {σ : St} 
    (k : Er (d + 1) 104 (65, [some (.ref x0), some (.int x1), some (.int x2), some (.int x3), some (.int x4)], [.int (0 : Int32)], σ) q) :
    Er (d + 1) 104 (64, [some (.ref x0), some (.int x1), some (.int x2), some (.int x3), some (.int x4)], [], σ) q := Er.sT (c2 := (65, [some (.ref x0), some (.int x1), some (.int x2), some (.int x3), some (.int x4)], [.int (0 : Int32)], σ)) r104_64 rfl rfl <| k
theorem b104_65 {d : Nat} {q : Rs} {x0 : Nat} {x1 : Int32} {x2 : Int32} {x3 : Int32} {x4 : Int32} {s0 : Int32} {σ : St} 
    (k : Er (d + 1) 104 (32, [some (.ref x0), some (.int x1), some (.int x2), some (.int s0), some (.int (x4 + (1 : Int32)))], [], σ) q) :
    Er (d + 1) 104 (65, [some (.ref x0), some (.int x1), some (.int x2), some (.int x3), some (.int x4)], [.int s0], σ) q := Er.sT (c2 := (66, [some (.ref x0), some (.int x1), some (.int x2), some (.int s0), some (.int x4)], [], σ)) r104_65 rfl rfl <| Er.sT (c2 := (69, [some (.ref x0), some (.int x1), some (.int x2), some (.int s0), some (.int (x4 + (1 : Int32)))], [], σ)) r104_66 rfl rfl <| Er.sT (c2 := (32, [some (.ref x0), some (.int x1), some (.int x2), some (.int s0), some (.int (x4 + (1 : Int32)))], [], σ)) r104_69 rfl rfl <| k
theorem b104_72 {d : Nat} {q : Rs} {x0 : Nat} {x1 : Int32} {x2 : Int32} {x3 : Int32} {x4 : Int32} {σ : St} 
    (kt : x3 = (0 : Int32) → Er (d + 1) 104 (97, [some (.ref x0), some (.int x1), some (.int x2), some (.int x3), some (.int x4)], [.ref x0], σ) q)
    (kf : ¬ x3 = (0 : Int32) → Er (d + 1) 104 (77, [some (.ref x0), some (.int x1), some (.int x2), some (.int x3), some (.int x4)], [.ref x0], σ) q) :
    Er (d + 1) 104 (72, [some (.ref x0), some (.int x1), some (.int x2), some (.int x3), some (.int x4)], [], σ) q := Er.sT (c2 := (73, [some (.ref x0), some (.int x1), some (.int x2), some (.int x3), some (.int x4)], [.ref x0], σ)) r104_72 rfl rfl <| Er.sT (c2 := (74, [some (.ref x0), some (.int x1), some (.int x2), some (.int x3), some (.int x4)], [.int x3, .ref x0], σ)) r104_73 rfl rfl <| Er.sT (c2 := (brn .eq x3 (0 : Int32) 97 77, [some (.ref x0), some (.int x1), some (.int x2), some (.int x3), some (.int x4)], [.ref x0], σ)) r104_74 rfl rfl <| (br_eq kt kf)
theorem b104_77 {d : Nat} {q : Rs} {x0 : Nat} {x1 : Int32} {x2 : Int32} {x3 : Int32} {x4 : Int32} {s0 : Nat} {σ : St} (h1 : x0 < 24 ∧ kls x0 = 5) (h2 : ¬ (fr x0 2) = 48) (h3 : ((fr x0 2) = 41 ∨ (fr x0 2) = 42) ∧ vp_in x1 (ale (fr x0 2))) (h4 : isL (fr x0 3) ∧ vp_in ((16 : Int32) * x1) (ale (fr x0 3)))
    (k : Er (d + 1) 104 (98, [some (.ref x0), some (.int x1), some (.int x2), some (.int x3), some (.int x4)], [.int ((gai σ (fr x0 2) x1.toNatClampNeg) * ((gal σ (fr x0 3) ((16 : Int32) * x1).toNatClampNeg).toInt32)), .ref s0], σ) q) :
    Er (d + 1) 104 (77, [some (.ref x0), some (.int x1), some (.int x2), some (.int x3), some (.int x4)], [.ref s0], σ) q := Er.sT (c2 := (78, [some (.ref x0), some (.int x1), some (.int x2), some (.int x3), some (.int x4)], [.ref x0, .ref s0], σ)) r104_77 rfl rfl <| Er.st (P := (x0 < 24 ∧ kls x0 = 5)) (c2 := (81, [some (.ref x0), some (.int x1), some (.int x2), some (.int x3), some (.int x4)], [.ref (fr x0 2), .ref s0], σ)) r104_78 rfl rfl h1 <| Er.sT (c2 := (82, [some (.ref x0), some (.int x1), some (.int x2), some (.int x3), some (.int x4)], [.int x1, .ref (fr x0 2), .ref s0], σ)) r104_81 rfl rfl <| Er.st (P := (((fr x0 2) = 41 ∨ (fr x0 2) = 42) ∧ vp_in x1 (ale (fr x0 2)))) (c2 := (83, [some (.ref x0), some (.int x1), some (.int x2), some (.int x3), some (.int x4)], [.int (gai σ (fr x0 2) x1.toNatClampNeg), .ref s0], σ)) r104_82 rfl (if_neg h2) h3 <| Er.sT (c2 := (84, [some (.ref x0), some (.int x1), some (.int x2), some (.int x3), some (.int x4)], [.ref x0, .int (gai σ (fr x0 2) x1.toNatClampNeg), .ref s0], σ)) r104_83 rfl rfl <| Er.st (P := (x0 < 24 ∧ kls x0 = 5)) (c2 := (87, [some (.ref x0), some (.int x1), some (.int x2), some (.int x3), some (.int x4)], [.ref (fr x0 3), .int (gai σ (fr x0 2) x1.toNatClampNeg), .ref s0], σ)) r104_84 rfl rfl h1 <| Er.sT (c2 := (89, [some (.ref x0), some (.int x1), some (.int x2), some (.int x3), some (.int x4)], [.int (16 : Int32), .ref (fr x0 3), .int (gai σ (fr x0 2) x1.toNatClampNeg), .ref s0], σ)) r104_87 rfl rfl <| Er.sT (c2 := (90, [some (.ref x0), some (.int x1), some (.int x2), some (.int x3), some (.int x4)], [.int x1, .int (16 : Int32), .ref (fr x0 3), .int (gai σ (fr x0 2) x1.toNatClampNeg), .ref s0], σ)) r104_89 rfl rfl <| Er.sT (c2 := (91, [some (.ref x0), some (.int x1), some (.int x2), some (.int x3), some (.int x4)], [.int ((16 : Int32) * x1), .ref (fr x0 3), .int (gai σ (fr x0 2) x1.toNatClampNeg), .ref s0], σ)) r104_90 rfl rfl <| Er.st (P := (isL (fr x0 3) ∧ vp_in ((16 : Int32) * x1) (ale (fr x0 3)))) (c2 := (92, [some (.ref x0), some (.int x1), some (.int x2), some (.int x3), some (.int x4)], [.long (gal σ (fr x0 3) ((16 : Int32) * x1).toNatClampNeg), .int (gai σ (fr x0 2) x1.toNatClampNeg), .ref s0], σ)) r104_91 rfl rfl h4 <| Er.sT (c2 := (93, [some (.ref x0), some (.int x1), some (.int x2), some (.int x3), some (.int x4)], [.int ((gal σ (fr x0 3) ((16 : Int32) * x1).toNatClampNeg).toInt32), .int (gai σ (fr x0 2) x1.toNatClampNeg), .ref s0], σ)) r104_92 rfl rfl <| Er.sT (c2 := (94, [some (.ref x0), some (.int x1), some (.int x2), some (.int x3), some (.int x4)], [.int ((gai σ (fr x0 2) x1.toNatClampNeg) * ((gal σ (fr x0 3) ((16 : Int32) * x1).toNatClampNeg).toInt32)), .ref s0], σ)) r104_93 rfl rfl <| Er.sT (c2 := (98, [some (.ref x0), some (.int x1), some (.int x2), some (.int x3), some (.int x4)], [.int ((gai σ (fr x0 2) x1.toNatClampNeg) * ((gal σ (fr x0 3) ((16 : Int32) * x1).toNatClampNeg).toInt32)), .ref s0], σ)) r104_94 rfl rfl <| k
theorem b104_97 {d : Nat} {q : Rs} {x0 : Nat} {x1 : Int32} {x2 : Int32} {x3 : Int32} {x4 : Int32} {s0 : Nat} {σ : St} 
    (k : Er (d + 1) 104 (98, [some (.ref x0), some (.int x1), some (.int x2), some (.int x3), some (.int x4)], [.int (0 : Int32), .ref s0], σ) q) :
    Er (d + 1) 104 (97, [some (.ref x0), some (.int x1), some (.int x2), some (.int x3), some (.int x4)], [.ref s0], σ) q := Er.sT (c2 := (98, [some (.ref x0), some (.int x1), some (.int x2), some (.int x3), some (.int x4)], [.int (0 : Int32), .ref s0], σ)) r104_97 rfl rfl <| k
theorem b104_98 {d : Nat} {x0 : Nat} {x1 : Int32} {x2 : Int32} {x3 : Int32} {x4 : Int32} {s0 : Nat} {s1 : Int32} {σ : St} (h1 : s0 < 24 ∧ kls s0 = 5 ∧ ft 5 5 = 0) (hz : narrow .boolean (.int x3) = .int x3) :
    Er (d + 1) 104 (98, [some (.ref x0), some (.int x1), some (.int x2), some (.int x3), some (.int x4)], [.int s1, .ref s0], σ) (.inl (some (.int x3)), (sfi σ s0 5 s1), 0) := Er.st (P := (s0 < 24 ∧ kls s0 = 5 ∧ ft 5 5 = 0)) (c2 := (101, [some (.ref x0), some (.int x1), some (.int x2), some (.int x3), some (.int x4)], [], (sfi σ s0 5 s1))) r104_98 rfl rfl h1 <| Er.sT (c2 := (102, [some (.ref x0), some (.int x1), some (.int x2), some (.int x3), some (.int x4)], [.int x3], (sfi σ s0 5 s1))) r104_101 rfl rfl <| (Er.ret r104_102 rfl ⟨_, _, rfl, rfl, hz, rfl⟩)
/-! NumberModelsModel.power(II)I -/
theorem tab_105 : tab 105 = tb105_0 ++ tb105_1 := rfl
theorem ch105_0 {j : Nat} {r : Row} (h : tb105_0[j]? = some r) : rowAt 105 r.1 = some r := row_mem 105 (by decide) (by rw [tab_105]; exact (List.mem_append_left _ (List.mem_of_getElem? h)))
theorem ch105_1 {j : Nat} {r : Row} (h : tb105_1[j]? = some r) : rowAt 105 r.1 = some r := row_mem 105 (by decide) (by rw [tab_105]; exact (List.mem_append_right _ (List.mem_of_getElem? h)))
theorem r105_0 : rowAt 105 0 = some (ra 0 1 (.iload_n 2) 2 0 0) := ch105_0 (j := 0) rfl
theorem r105_1 : rowAt 105 1 = some (ra 1 4 (.ifCond .ge 8) 9 0 0) := ch105_0 (j := 1) rfl
theorem r105_4 : rowAt 105 4 = some (ra 4 5 (.iload_n 2) 2 0 0) := ch105_0 (j := 2) rfl
theorem r105_5 : rowAt 105 5 = some (r0 5 6 (.ineg)) := ch105_0 (j := 3) rfl
theorem r105_6 : rowAt 105 6 = some (ra 6 9 (.goto 4) 10 0 0) := ch105_0 (j := 4) rfl
theorem r105_9 : rowAt 105 9 = some (ra 9 10 (.iload_n 2) 2 0 0) := ch105_0 (j := 5) rfl
theorem r105_10 : rowAt 105 10 = some (ra 10 11 (.istore_n 3) 3 0 0) := ch105_0 (j := 6) rfl
theorem r105_11 : rowAt 105 11 = some (r0 11 12 (.aload_n 0)) := ch105_0 (j := 7) rfl
theorem r105_12 : rowAt 105 12 = some (ra 12 15 (.getfield 7) 2 5 875) := ch105_0 (j := 8) rfl
theorem r105_15 : rowAt 105 15 = some (ra 15 16 (.iload_n 1) 1 0 0) := ch105_0 (j := 9) rfl
theorem r105_16 : rowAt 105 16 = some (r0 16 17 (.iaload)) := ch105_0 (j := 10) rfl
theorem r105_17 : rowAt 105 17 = some (ra 17 20 (.ifCond .ge 14) 31 0 0) := ch105_0 (j := 11) rfl
theorem r105_20 : rowAt 105 20 = some (ra 20 21 (.iload_n 3) 3 0 0) := ch105_0 (j := 12) rfl
theorem r105_21 : rowAt 105 21 = some (21, 22, .iconst 2, 0, 0, 0, 2, 0) := ch105_0 (j := 13) rfl
theorem r105_22 : rowAt 105 22 = some (r0 22 23 (.irem)) := ch105_0 (j := 14) rfl
theorem r105_23 : rowAt 105 23 = some (23, 24, .iconst 1, 0, 0, 0, 1, 0) := ch105_0 (j := 15) rfl
theorem r105_24 : rowAt 105 24 = some (ra 24 27 (.if_icmp .ne 7) 31 0 0) := ch105_0 (j := 16) rfl
theorem r105_27 : rowAt 105 27 = some (27, 28, .iconst (-1), 0, 0, 0, (-1), 0) := ch105_0 (j := 17) rfl
theorem r105_28 : rowAt 105 28 = some (ra 28 31 (.goto 4) 32 0 0) := ch105_0 (j := 18) rfl
theorem r105_31 : rowAt 105 31 = some (31, 32, .iconst 1, 0, 0, 0, 1, 0) := ch105_0 (j := 19) rfl
theorem r105_32 : rowAt 105 32 = some (ra 32 34 (.istore 4) 4 0 0) := ch105_0 (j := 20) rfl
theorem r105_34 : rowAt 105 34 = some (r0 34 35 (.aload_n 0)) := ch105_0 (j := 21) rfl
theorem r105_35 : rowAt 105 35 = some (ra 35 36 (.iload_n 1) 1 0 0) := ch105_0 (j := 22) rfl
theorem r105_36 : rowAt 105 36 = some (36, 37, .iconst 2, 0, 0, 0, 2, 0) := ch105_0 (j := 23) rfl
theorem r105_37 : rowAt 105 37 = some (ra 37 40 (.invokevirtual 130) 106 3 1026) := ch105_0 (j := 24) rfl
theorem r105_40 : rowAt 105 40 = some (r0 40 41 (.aload_n 0)) := ch105_0 (j := 25) rfl
theorem r105_41 : rowAt 105 41 = some (ra 41 42 (.iload_n 1) 1 0 0) := ch105_0 (j := 26) rfl
theorem r105_42 : rowAt 105 42 = some (42, 43, .iconst 3, 0, 0, 0, 3, 0) := ch105_0 (j := 27) rfl
theorem r105_43 : rowAt 105 43 = some (ra 43 46 (.invokevirtual 133) 107 3 1030) := ch105_0 (j := 28) rfl
theorem r105_46 : rowAt 105 46 = some (r0 46 47 (.aload_n 0)) := ch105_0 (j := 29) rfl
theorem r105_47 : rowAt 105 47 = some (r0 47 48 (.iconst 0)) := ch105_0 (j := 30) rfl
theorem r105_48 : rowAt 105 48 = some (48, 49, .lconst 1, 0, 0, 0, 0, 1) := ch105_0 (j := 31) rfl
theorem r105_49 : rowAt 105 49 = some (ra 49 52 (.invokevirtual 68) 78 3 915) := ch105_0 (j := 32) rfl
theorem r105_52 : rowAt 105 52 = some (r0 52 53 (.aload_n 0)) := ch105_0 (j := 33) rfl
theorem r105_53 : rowAt 105 53 = some (53, 54, .iconst 1, 0, 0, 0, 1, 0) := ch105_0 (j := 34) rfl
theorem r105_54 : rowAt 105 54 = some (54, 55, .lconst 1, 0, 0, 0, 0, 1) := ch105_0 (j := 35) rfl
theorem r105_55 : rowAt 105 55 = some (ra 55 58 (.invokevirtual 68) 78 3 915) := ch105_0 (j := 36) rfl
theorem r105_58 : rowAt 105 58 = some (r0 58 59 (.iconst 0)) := ch105_0 (j := 37) rfl
theorem r105_59 : rowAt 105 59 = some (ra 59 61 (.istore 5) 5 0 0) := ch105_0 (j := 38) rfl
theorem r105_61 : rowAt 105 61 = some (ra 61 63 (.iload 5) 5 0 0) := ch105_0 (j := 39) rfl
theorem r105_63 : rowAt 105 63 = some (ra 63 64 (.iload_n 3) 3 0 0) := ch105_0 (j := 40) rfl
theorem r105_64 : rowAt 105 64 = some (ra 64 67 (.if_icmp .ge 63) 127 0 0) := ch105_0 (j := 41) rfl
theorem r105_67 : rowAt 105 67 = some (r0 67 68 (.aload_n 0)) := ch105_0 (j := 42) rfl
theorem r105_68 : rowAt 105 68 = some (r0 68 69 (.iconst 0)) := ch105_0 (j := 43) rfl
theorem r105_69 : rowAt 105 69 = some (69, 70, .iconst 2, 0, 0, 0, 2, 0) := ch105_0 (j := 44) rfl
theorem r105_70 : rowAt 105 70 = some (70, 71, .iconst 4, 0, 0, 0, 4, 0) := ch105_0 (j := 45) rfl
theorem r105_71 : rowAt 105 71 = some (ra 71 74 (.invokevirtual 140) 108 4 1034) := ch105_0 (j := 46) rfl
theorem r105_74 : rowAt 105 74 = some (r0 74 75 (.aload_n 0)) := ch105_0 (j := 47) rfl
theorem r105_75 : rowAt 105 75 = some (75, 76, .iconst 4, 0, 0, 0, 4, 0) := ch105_0 (j := 48) rfl
theorem r105_76 : rowAt 105 76 = some (r0 76 77 (.iconst 0)) := ch105_0 (j := 49) rfl
theorem r105_77 : rowAt 105 77 = some (ra 77 80 (.invokevirtual 49) 83 3 936) := ch105_0 (j := 50) rfl
theorem r105_80 : rowAt 105 80 = some (r0 80 81 (.aload_n 0)) := ch105_0 (j := 51) rfl
theorem r105_81 : rowAt 105 81 = some (81, 82, .iconst 1, 0, 0, 0, 1, 0) := ch105_0 (j := 52) rfl
theorem r105_82 : rowAt 105 82 = some (82, 83, .iconst 3, 0, 0, 0, 3, 0) := ch105_0 (j := 53) rfl
theorem r105_83 : rowAt 105 83 = some (83, 84, .iconst 4, 0, 0, 0, 4, 0) := ch105_0 (j := 54) rfl
theorem r105_84 : rowAt 105 84 = some (ra 84 87 (.invokevirtual 140) 108 4 1034) := ch105_0 (j := 55) rfl
theorem r105_87 : rowAt 105 87 = some (r0 87 88 (.aload_n 0)) := ch105_0 (j := 56) rfl
theorem r105_88 : rowAt 105 88 = some (88, 89, .iconst 4, 0, 0, 0, 4, 0) := ch105_0 (j := 57) rfl
theorem r105_89 : rowAt 105 89 = some (89, 90, .iconst 1, 0, 0, 0, 1, 0) := ch105_0 (j := 58) rfl
theorem r105_90 : rowAt 105 90 = some (ra 90 93 (.invokevirtual 49) 83 3 936) := ch105_0 (j := 59) rfl
theorem r105_93 : rowAt 105 93 = some (r0 93 94 (.aload_n 0)) := ch105_1 (j := 0) rfl
theorem r105_94 : rowAt 105 94 = some (r0 94 95 (.iconst 0)) := ch105_1 (j := 1) rfl
theorem r105_95 : rowAt 105 95 = some (ra 95 98 (.invokevirtual 30) 91 2 968) := ch105_1 (j := 2) rfl
theorem r105_98 : rowAt 105 98 = some (98, 101, .sipush 256, 0, 0, 0, 256, 0) := ch105_1 (j := 3) rfl
theorem r105_101 : rowAt 105 101 = some (ra 101 104 (.if_icmp .gt 14) 115 0 0) := ch105_1 (j := 4) rfl
theorem r105_104 : rowAt 105 104 = some (r0 104 105 (.aload_n 0)) := ch105_1 (j := 5) rfl
theorem r105_105 : rowAt 105 105 = some (105, 106, .iconst 1, 0, 0, 0, 1, 0) := ch105_1 (j := 6) rfl
theorem r105_106 : rowAt 105 106 = some (ra 106 109 (.invokevirtual 30) 91 2 968) := ch105_1 (j := 7) rfl
theorem r105_109 : rowAt 105 109 = some (109, 112, .sipush 256, 0, 0, 0, 256, 0) := ch105_1 (j := 8) rfl
theorem r105_112 : rowAt 105 112 = some (ra 112 115 (.if_icmp .le 9) 121 0 0) := ch105_1 (j := 9) rfl
theorem r105_115 : rowAt 105 115 = some (r0 115 116 (.aload_n 0)) := ch105_1 (j := 10) rfl
theorem r105_116 : rowAt 105 116 = some (116, 117, .iconst 4, 0, 0, 0, 4, 0) := ch105_1 (j := 11) rfl
theorem r105_117 : rowAt 105 117 = some (ra 117 120 (.invokevirtual 79) 93 2 976) := ch105_1 (j := 12) rfl
theorem r105_120 : rowAt 105 120 = some (r0 120 121 (.ireturn)) := ch105_1 (j := 13) rfl
theorem r105_121 : rowAt 105 121 = some (121, 124, .iinc 5 1, 5, 0, 0, 1, 0) := ch105_1 (j := 14) rfl
theorem r105_124 : rowAt 105 124 = some (ra 124 127 (.goto (-63)) 61 0 0) := ch105_1 (j := 15) rfl
theorem r105_127 : rowAt 105 127 = some (ra 127 128 (.iload_n 2) 2 0 0) := ch105_1 (j := 16) rfl
theorem r105_128 : rowAt 105 128 = some (ra 128 131 (.ifCond .ge 9) 137 0 0) := ch105_1 (j := 17) rfl
theorem r105_131 : rowAt 105 131 = some (r0 131 132 (.aload_n 0)) := ch105_1 (j := 18) rfl
theorem r105_132 : rowAt 105 132 = some (r0 132 133 (.iconst 0)) := ch105_1 (j := 19) rfl
theorem r105_133 : rowAt 105 133 = some (133, 134, .iconst 1, 0, 0, 0, 1, 0) := ch105_1 (j := 20) rfl
theorem r105_134 : rowAt 105 134 = some (ra 134 137 (.invokevirtual 62) 87 3 952) := ch105_1 (j := 21) rfl
theorem r105_137 : rowAt 105 137 = some (r0 137 138 (.aload_n 0)) := ch105_1 (j := 22) rfl
theorem r105_138 : rowAt 105 138 = some (ra 138 140 (.iload 4) 4 0 0) := ch105_1 (j := 23) rfl
theorem r105_140 : rowAt 105 140 = some (140, 141, .iconst 4, 0, 0, 0, 4, 0) := ch105_1 (j := 24) rfl
theorem r105_141 : rowAt 105 141 = some (ra 141 144 (.invokevirtual 86) 80 3 924) := ch105_1 (j := 25) rfl
theorem r105_144 : rowAt 105 144 = some (r0 144 145 (.ireturn)) := ch105_1 (j := 26) rfl
theorem b105_0 {d : Nat} {q : Rs} {x0 : Nat} {x1 : Int32} {x2 : Int32} {σ : St} 
    (kt : (0 : Int32) ≤ x2 → Er (d + 1) 105 (9, [some (.ref x0), some (.int x1), some (.int x2), none, none, none], [], σ) q)
    (kf : ¬ (0 : Int32) ≤ x2 → Er (d + 1) 105 (4, [some (.ref x0), some (.int x1), some (.int x2), none, none, none], [], σ) q) :
    Er (d + 1) 105 (0, [some (.ref x0), some (.int x1), some (.int x2), none, none, none], [], σ) q := Er.sT (c2 := (1, [some (.ref x0), some (.int x1), some (.int x2), none, none, none], [.int x2], σ)) r105_0 rfl rfl <| Er.sT (c2 := (brn .ge x2 (0 : Int32) 9 4, [some (.ref x0), some (.int x1), some (.int x2), none, none, none], [], σ)) r105_1 rfl rfl <| (br_ge kt kf)
theorem b105_4 {d : Nat} {q : Rs} {x0 : Nat} {x1 : Int32} {x2 : Int32} {σ : St} 
    (k : Er (d + 1) 105 (10, [some (.ref x0), some (.int x1), some (.int x2), none, none, none], [.int (-x2)], σ) q) :
    Er (d + 1) 105 (4, [some (.ref x0), some (.int x1), some (.int x2), none, none, none], [], σ) q := Er.sT (c2 := (5, [some (.ref x0), some (.int x1), some (.int x2), none, none, none], [.int x2], σ)) r105_4 rfl rfl <| Er.sT (c2 := (6, [some (.ref x0), some (.int x1), some (.int x2), none, none, none], [.int (-x2)], σ)) r105_5 rfl rfl <| Er.sT (c2 := (10, [some (.ref x0), some (.int x1), some (.int x2), none, none, none], [.int (-x2)], σ)) r105_6 rfl rfl <| k
theorem b105_9 {d : Nat} {q : Rs} {x0 : Nat} {x1 : Int32} {x2 : Int32} {σ : St} 
    (k : Er (d + 1) 105 (10, [some (.ref x0), some (.int x1), some (.int x2), none, none, none], [.int x2], σ) q) :
    Er (d + 1) 105 (9, [some (.ref x0), some (.int x1), some (.int x2), none, none, none], [], σ) q := Er.sT (c2 := (10, [some (.ref x0), some (.int x1), some (.int x2), none, none, none], [.int x2], σ)) r105_9 rfl rfl <| k
theorem b105_10 {d : Nat} {q : Rs} {x0 : Nat} {x1 : Int32} {x2 : Int32} {s0 : Int32} {σ : St} (h1 : x0 < 24 ∧ kls x0 = 5) (h2 : ¬ (fr x0 2) = 48) (h3 : ((fr x0 2) = 41 ∨ (fr x0 2) = 42) ∧ vp_in x1 (ale (fr x0 2)))
    (kt : (0 : Int32) ≤ (gai σ (fr x0 2) x1.toNatClampNeg) → Er (d + 1) 105 (31, [some (.ref x0), some (.int x1), some (.int x2), some (.int s0), none, none], [], σ) q)
    (kf : ¬ (0 : Int32) ≤ (gai σ (fr x0 2) x1.toNatClampNeg) → Er (d + 1) 105 (20, [some (.ref x0), some (.int x1), some (.int x2), some (.int s0), none, none], [], σ) q) :
    Er (d + 1) 105 (10, [some (.ref x0), some (.int x1), some (.int x2), none, none, none], [.int s0], σ) q := Er.sT (c2 := (11, [some (.ref x0), some (.int x1), some (.int x2), some (.int s0), none, none], [], σ)) r105_10 rfl rfl <| Er.sT (c2 := (12, [some (.ref x0), some (.int x1), some (.int x2), some (.int s0), none, none], [.ref x0], σ)) r105_11 rfl rfl <| Er.st (P := (x0 < 24 ∧ kls x0 = 5)) (c2 := (15, [some (.ref x0), some (.int x1), some (.int x2), some (.int s0), none, none], [.ref (fr x0 2)], σ)) r105_12 rfl rfl h1 <| Er.sT (c2 := (16, [some (.ref x0), some (.int x1), some (.int x2), some (.int s0), none, none], [.int x1, .ref (fr x0 2)], σ)) r105_15 rfl rfl <| Er.st (P := (((fr x0 2) = 41 ∨ (fr x0 2) = 42) ∧ vp_in x1 (ale (fr x0 2)))) (c2 := (17, [some (.ref x0), some (.int x1), some (.int x2), some (.int s0), none, none], [.int (gai σ (fr x0 2) x1.toNatClampNeg)], σ)) r105_16 rfl (if_neg h2) h3 <| Er.sT (c2 := (brn .ge (gai σ (fr x0 2) x1.toNatClampNeg) (0 : Int32) 31 20, [some (.ref x0), some (.int x1), some (.int x2), some (.int s0), none, none], [], σ)) r105_17 rfl rfl <| (br_ge kt kf)
theorem b105_20 {d : Nat} {q : Rs} {x0 : Nat} {x1 : Int32} {x2 : Int32} {x3 : Int32} {σ : St} (h1 : ¬ (2 : Int32) = 0)
    (kt : ¬ (x3 - x3 / (2 : Int32) * (2 : Int32)) = (1 : Int32) → Er (d + 1) 105 (31, [some (.ref x0), some (.int x1), some (.int x2), some (.int x3), none, none], [], σ) q)
    (kf : (x3 - x3 / (2 : Int32) * (2 : Int32)) = (1 : Int32) → Er (d + 1) 105 (27, [some (.ref x0), some (.int x1), some (.int x2), some (.int x3), none, none], [], σ) q) :
    Er (d + 1) 105 (20, [some (.ref x0), some (.int x1), some (.int x2), some (.int x3), none, none], [], σ) q := Er.sT (c2 := (21, [some (.ref x0), some (.int x1), some (.int x2), some (.int x3), none, none], [.int x3], σ)) r105_20 rfl rfl <| Er.sT (c2 := (22, [some (.ref x0), some (.int x1), some (.int x2), some (.int x3), none, none], [.int (2 : Int32), .int x3], σ)) r105_21 rfl rfl <| Er.st (P := (¬ (2 : Int32) = 0)) (c2 := (23, [some (.ref x0), some (.int x1), some (.int x2), some (.int x3), none, none], [.int (x3 - x3 / (2 : Int32) * (2 : Int32))], σ)) r105_22 rfl rfl h1 <| Er.sT (c2 := (24, [some (.ref x0), some (.int x1), some (.int x2), some (.int x3), none, none], [.int (1 : Int32), .int (x3 - x3 / (2 : Int32) * (2 : Int32))], σ)) r105_23 rfl rfl <| Er.sT (c2 := (brn .ne (x3 - x3 / (2 : Int32) * (2 : Int32)) (1 : Int32) 31 27, [some (.ref x0), some (.int x1), some (.int x2), some (.int x3), none, none], [], σ)) r105_24 rfl rfl <| (br_ne kt kf)
theorem b105_27 {d : Nat} {q : Rs} {x0 : Nat} {x1 : Int32} {x2 : Int32} {x3 : Int32} {σ : St} 
    (k : Er (d + 1) 105 (32, [some (.ref x0), some (.int x1), some (.int x2), some (.int x3), none, none], [.int (-1 : Int32)], σ) q) :
    Er (d + 1) 105 (27, [some (.ref x0), some (.int x1), some (.int x2), some (.int x3), none, none], [], σ) q := Er.sT (c2 := (28, [some (.ref x0), some (.int x1), some (.int x2), some (.int x3), none, none], [.int (-1 : Int32)], σ)) r105_27 rfl rfl <| Er.sT (c2 := (32, [some (.ref x0), some (.int x1), some (.int x2), some (.int x3), none, none], [.int (-1 : Int32)], σ)) r105_28 rfl rfl <| k
theorem b105_31 {d : Nat} {q : Rs} {x0 : Nat} {x1 : Int32} {x2 : Int32} {x3 : Int32} {σ : St} 
    (k : Er (d + 1) 105 (32, [some (.ref x0), some (.int x1), some (.int x2), some (.int x3), none, none], [.int (1 : Int32)], σ) q) :
    Er (d + 1) 105 (31, [some (.ref x0), some (.int x1), some (.int x2), some (.int x3), none, none], [], σ) q := Er.sT (c2 := (32, [some (.ref x0), some (.int x1), some (.int x2), some (.int x3), none, none], [.int (1 : Int32)], σ)) r105_31 rfl rfl <| k
theorem b105_32 {d : Nat} {q : Rs} {x0 : Nat} {x1 : Int32} {x2 : Int32} {x3 : Int32} {s0 : Int32} {σ : St} {σ2 : St}  (h1 : x0 < 24 ∧ kls x0 = 5)
    (hy : Er d 106 (0, ent 106 [.ref x0, .int x1, .int (2 : Int32)], [], σ) (.inl none, σ2, 0))
    (k : Er (d + 1) 105 (40, [some (.ref x0), some (.int x1), some (.int x2), some (.int x3), some (.int s0), none], [], σ2) q) :
    Er (d + 1) 105 (32, [some (.ref x0), some (.int x1), some (.int x2), some (.int x3), none, none], [.int s0], σ) q := Er.sT (c2 := (34, [some (.ref x0), some (.int x1), some (.int x2), some (.int x3), some (.int s0), none], [], σ)) r105_32 rfl rfl <| Er.sT (c2 := (35, [some (.ref x0), some (.int x1), some (.int x2), some (.int x3), some (.int s0), none], [.ref x0], σ)) r105_34 rfl rfl <| Er.sT (c2 := (36, [some (.ref x0), some (.int x1), some (.int x2), some (.int x3), some (.int s0), none], [.int x1, .ref x0], σ)) r105_35 rfl rfl <| Er.sT (c2 := (37, [some (.ref x0), some (.int x1), some (.int x2), some (.int x3), some (.int s0), none], [.int (2 : Int32), .int x1, .ref x0], σ)) r105_36 rfl rfl <| (Er.call (vs := [.ref x0, .int x1, .int (2 : Int32)]) (rest := []) r105_37 rfl rfl (Nat.le_of_ble_eq_true rfl) (Nat.le_of_ble_eq_true rfl) (fun _ => ⟨_, _, rfl, h1⟩) hy k)
theorem b105_40 {d : Nat} {q : Rs} {x0 : Nat} {x1 : Int32} {x2 : Int32} {x3 : Int32} {x4 : Int32} {σ : St} {σ2 : St}  (h1 : x0 < 24 ∧ kls x0 = 5)
    (hy : Er d 107 (0, ent 107 [.ref x0, .int x1, .int (3 : Int32)], [], σ) (.inl none, σ2, 0))
    (k : Er (d + 1) 105 (46, [some (.ref x0), some (.int x1), some (.int x2), some (.int x3), some (.int x4), none], [], σ2) q) :
    Er (d + 1) 105 (40, [some (.ref x0), some (.int x1), some (.int x2), some (.int x3), some (.int x4), none], [], σ) q := Er.sT (c2 := (41, [some (.ref x0), some (.int x1), some (.int x2), some (.int x3), some (.int x4), none], [.ref x0], σ)) r105_40 rfl rfl <| Er.sT (c2 := (42, [some (.ref x0), some (.int x1), some (.int x2), some (.int x3), some (.int x4), none], [.int x1, .ref x0], σ)) r105_41 rfl rfl <| Er.sT (c2 := (43, [some (.ref x0), some (.int x1), some (.int x2), some (.int x3), some (.int x4), none], [.int (3 : Int32), .int x1, .ref x0], σ)) r105_42 rfl rfl <| (Er.call (vs := [.ref x0, .int x1, .int (3 : Int32)]) (rest := []) r105_43 rfl rfl (Nat.le_of_ble_eq_true rfl) (Nat.le_of_ble_eq_true rfl) (fun _ => ⟨_, _, rfl, h1⟩) hy k)
theorem b105_46 {d : Nat} {q : Rs} {x0 : Nat} {x1 : Int32} {x2 : Int32} {x3 : Int32} {x4 : Int32} {σ : St} {σ2 : St}  (h1 : x0 < 24 ∧ kls x0 = 5)
    (hy : Er d 78 (0, ent 78 [.ref x0, .int (0 : Int32), .long (1 : Int64)], [], σ) (.inl none, σ2, 0))
    (k : Er (d + 1) 105 (52, [some (.ref x0), some (.int x1), some (.int x2), some (.int x3), some (.int x4), none], [], σ2) q) :
    Er (d + 1) 105 (46, [some (.ref x0), some (.int x1), some (.int x2), some (.int x3), some (.int x4), none], [], σ) q := Er.sT (c2 := (47, [some (.ref x0), some (.int x1), some (.int x2), some (.int x3), some (.int x4), none], [.ref x0], σ)) r105_46 rfl rfl <| Er.sT (c2 := (48, [some (.ref x0), some (.int x1), some (.int x2), some (.int x3), some (.int x4), none], [.int (0 : Int32), .ref x0], σ)) r105_47 rfl rfl <| Er.sT (c2 := (49, [some (.ref x0), some (.int x1), some (.int x2), some (.int x3), some (.int x4), none], [.long (1 : Int64), .int (0 : Int32), .ref x0], σ)) r105_48 rfl rfl <| (Er.call (vs := [.ref x0, .int (0 : Int32), .long (1 : Int64)]) (rest := []) r105_49 rfl rfl (Nat.le_of_ble_eq_true rfl) (Nat.le_of_ble_eq_true rfl) (fun _ => ⟨_, _, rfl, h1⟩) hy k)
theorem b105_52 {d : Nat} {q : Rs} {x0 : Nat} {x1 : Int32} {x2 : Int32} {x3 : Int32} {x4 : Int32} {σ : St} {σ2 : St}  (h1 : x0 < 24 ∧ kls x0 = 5)
    (hy : Er d 78 (0, ent 78 [.ref x0, .int (1 : Int32), .long (1 : Int64)], [], σ) (.inl none, σ2, 0))
    (k : Er (d + 1) 105 (58, [some (.ref x0), some (.int x1), some (.int x2), some (.int x3), some (.int x4), none], [], σ2) q) :
    Er (d + 1) 105 (52, [some (.ref x0), some (.int x1), some (.int x2), some (.int x3), some (.int x4), none], [], σ) q := Er.sT (c2 := (53, [some (.ref x0), some (.int x1), some (.int x2), some (.int x3), some (.int x4), none], [.ref x0], σ)) r105_52 rfl rfl <| Er.sT (c2 := (54, [some (.ref x0), some (.int x1), some (.int x2), some (.int x3), some (.int x4), none], [.int (1 : Int32), .ref x0], σ)) r105_53 rfl rfl <| Er.sT (c2 := (55, [some (.ref x0), some (.int x1), some (.int x2), some (.int x3), some (.int x4), none], [.long (1 : Int64), .int (1 : Int32), .ref x0], σ)) r105_54 rfl rfl <| (Er.call (vs := [.ref x0, .int (1 : Int32), .long (1 : Int64)]) (rest := []) r105_55 rfl rfl (Nat.le_of_ble_eq_true rfl) (Nat.le_of_ble_eq_true rfl) (fun _ => ⟨_, _, rfl, h1⟩) hy k)
theorem b105_58 {d : Nat} {q : Rs} {x0 : Nat} {x1 : Int32} {x2 : Int32} {x3 : Int32} {x4 : Int32} {σ : St} 
    (k : Er (d + 1) 105 (61, [some (.ref x0), some (.int x1), some (.int x2), some (.int x3), some (.int x4), some (.int (0 : Int32))], [], σ) q) :
    Er (d + 1) 105 (58, [some (.ref x0), some (.int x1), some (.int x2), some (.int x3), some (.int x4), none], [], σ) q := Er.sT (c2 := (59, [some (.ref x0), some (.int x1), some (.int x2), some (.int x3), some (.int x4), none], [.int (0 : Int32)], σ)) r105_58 rfl rfl <| Er.sT (c2 := (61, [some (.ref x0), some (.int x1), some (.int x2), some (.int x3), some (.int x4), some (.int (0 : Int32))], [], σ)) r105_59 rfl rfl <| k
theorem b105_61 {d : Nat} {q : Rs} {x0 : Nat} {x1 : Int32} {x2 : Int32} {x3 : Int32} {x4 : Int32} {x5 : Int32} {σ : St} 
    (kt : x3 ≤ x5 → Er (d + 1) 105 (127, [some (.ref x0), some (.int x1), some (.int x2), some (.int x3), some (.int x4), some (.int x5)], [], σ) q)
    (kf : ¬ x3 ≤ x5 → Er (d + 1) 105 (67, [some (.ref x0), some (.int x1), some (.int x2), some (.int x3), some (.int x4), some (.int x5)], [], σ) q) :
    Er (d + 1) 105 (61, [some (.ref x0), some (.int x1), some (.int x2), some (.int x3), some (.int x4), some (.int x5)], [], σ) q := Er.sT (c2 := (63, [some (.ref x0), some (.int x1), some (.int x2), some (.int x3), some (.int x4), some (.int x5)], [.int x5], σ)) r105_61 rfl rfl <| Er.sT (c2 := (64, [some (.ref x0), some (.int x1), some (.int x2), some (.int x3), some (.int x4), some (.int x5)], [.int x3, .int x5], σ)) r105_63 rfl rfl <| Er.sT (c2 := (brn .ge x5 x3 127 67, [some (.ref x0), some (.int x1), some (.int x2), some (.int x3), some (.int x4), some (.int x5)], [], σ)) r105_64 rfl rfl <| (br_ge kt kf)
theorem b105_67 {d : Nat} {q : Rs} {x0 : Nat} {x1 : Int32} {x2 : Int32} {x3 : Int32} {x4 : Int32} {x5 : Int32} {σ : St} {σ2 : St}  (h1 : x0 < 24 ∧ kls x0 = 5)
    (hy : Er d 108 (0, ent 108 [.ref x0, .int (0 : Int32), .int (2 : Int32), .int (4 : Int32)], [], σ) (.inl none, σ2, 0))
    (k : Er (d + 1) 105 (74, [some (.ref x0), some (.int x1), some (.int x2), some (.int x3), some (.int x4), some (.int x5)], [], σ2) q) :
    Er (d + 1) 105 (67, [some (.ref x0), some (.int x1), some (.int x2), some (.int x3), some (.int x4), some (.int x5)], [], σ) q := Er.sT (c2 := (68, [some (.ref x0), some (.int x1), some (.int x2), some (.int x3), some (.int x4), some (.int x5)], [.ref x0], σ)) r105_67 rfl rfl <| Er.sT (c2 := (69, [some (.ref x0), some (.int x1), some (.int x2), some (.int x3), some (.int x4), some (.int x5)], [.int (0 : Int32), .ref x0], σ)) r105_68 rfl rfl <| Er.sT (c2 := (70, [some (.ref x0), some (.int x1), some (.int x2), some (.int x3), some (.int x4), some (.int x5)], [.int (2 : Int32), .int (0 : Int32), .ref x0], σ)) r105_69 rfl rfl <| Er.sT (c2 := (71, [some (.ref x0), some (.int x1), some (.int x2), some (.int x3), some (.int x4), some (.int x5)], [.int (4 : Int32), .int (2 : Int32), .int (0 : Int32), .ref x0], σ)) r105_70 rfl rfl <| (Er.call (vs := [.ref x0, .int (0 : Int32), .int (2 : Int32), .int (4 : Int32)]) (rest := []) r105_71 rfl rfl (Nat.le_of_ble_eq_true rfl) (Nat.le_of_ble_eq_true rfl) (fun _ => ⟨_, _, rfl, h1⟩) hy k)
theorem b105_74 {d : Nat} {q : Rs} {x0 : Nat} {x1 : Int32} {x2 : Int32} {x3 : Int32} {x4 : Int32} {x5 : Int32} {σ : St} {σ2 : St}  (h1 : x0 < 24 ∧ kls x0 = 5)
    (hy : Er d 83 (0, ent 83 [.ref x0, .int (4 : Int32), .int (0 : Int32)], [], σ) (.inl none, σ2, 0))
    (k : Er (d + 1) 105 (80, [some (.ref x0), some (.int x1), some (.int x2), some (.int x3), some (.int x4), some (.int x5)], [], σ2) q) :
    Er (d + 1) 105 (74, [some (.ref x0), some (.int x1), some (.int x2), some (.int x3), some (.int x4), some (.int x5)], [], σ) q := Er.sT (c2 := (75, [some (.ref x0), some (.int x1), some (.int x2), some (.int x3), some (.int x4), some (.int x5)], [.ref x0], σ)) r105_74 rfl rfl <| Er.sT (c2 := (76, [some (.ref x0), some (.int x1), some (.int x2), some (.int x3), some (.int x4), some (.int x5)], [.int (4 : Int32), .ref x0], σ)) r105_75 rfl rfl <| Er.sT (c2 := (77, [some (.ref x0), some (.int x1), some (.int x2), some (.int x3), some (.int x4), some (.int x5)], [.int (0 : Int32), .int (4 : Int32), .ref x0], σ)) r105_76 rfl rfl <| (Er.call (vs := [.ref x0, .int (4 : Int32), .int (0 : Int32)]) (rest := []) r105_77 rfl rfl (Nat.le_of_ble_eq_true rfl) (Nat.le_of_ble_eq_true rfl) (fun _ => ⟨_, _, rfl, h1⟩) hy k)
theorem b105_80 {d : Nat} {q : Rs} {x0 : Nat} {x1 : Int32} {x2 : Int32} {x3 : Int32} {x4 : Int32} {x5 : Int32} {σ : St} {σ2 : St}  (h1 : x0 < 24 ∧ kls x0 = 5)
    (hy : Er d 108 (0, ent 108 [.ref x0, .int (1 : Int32), .int (3 : Int32), .int (4 : Int32)], [], σ) (.inl none, σ2, 0))
    (k : Er (d + 1) 105 (87, [some (.ref x0), some (.int x1), some (.int x2), some (.int x3), some (.int x4), some (.int x5)], [], σ2) q) :
    Er (d + 1) 105 (80, [some (.ref x0), some (.int x1), some (.int x2), some (.int x3), some (.int x4), some (.int x5)], [], σ) q := Er.sT (c2 := (81, [some (.ref x0), some (.int x1), some (.int x2), some (.int x3), some (.int x4), some (.int x5)], [.ref x0], σ)) r105_80 rfl rfl <| Er.sT (c2 := (82, [some (.ref x0), some (.int x1), some (.int x2), some (.int x3), some (.int x4), some (.int x5)], [.int (1 : Int32), .ref x0], σ)) r105_81 rfl rfl <| Er.sT (c2 := (83, [some (.ref x0), some (.int x1), some (.int x2), some (.int x3), some (.int x4), some (.int x5)], [.int (3 : Int32), .int (1 : Int32), .ref x0], σ)) r105_82 rfl rfl <| Er.sT (c2 := (84, [some (.ref x0), some (.int x1), some (.int x2), some (.int x3), some (.int x4), some (.int x5)], [.int (4 : Int32), .int (3 : Int32), .int (1 : Int32), .ref x0], σ)) r105_83 rfl rfl <| (Er.call (vs := [.ref x0, .int (1 : Int32), .int (3 : Int32), .int (4 : Int32)]) (rest := []) r105_84 rfl rfl (Nat.le_of_ble_eq_true rfl) (Nat.le_of_ble_eq_true rfl) (fun _ => ⟨_, _, rfl, h1⟩) hy k)
theorem b105_87 {d : Nat} {q : Rs} {x0 : Nat} {x1 : Int32} {x2 : Int32} {x3 : Int32} {x4 : Int32} {x5 : Int32} {σ : St} {σ2 : St}  (h1 : x0 < 24 ∧ kls x0 = 5)
    (hy : Er d 83 (0, ent 83 [.ref x0, .int (4 : Int32), .int (1 : Int32)], [], σ) (.inl none, σ2, 0))
    (k : Er (d + 1) 105 (93, [some (.ref x0), some (.int x1), some (.int x2), some (.int x3), some (.int x4), some (.int x5)], [], σ2) q) :
    Er (d + 1) 105 (87, [some (.ref x0), some (.int x1), some (.int x2), some (.int x3), some (.int x4), some (.int x5)], [], σ) q := Er.sT (c2 := (88, [some (.ref x0), some (.int x1), some (.int x2), some (.int x3), some (.int x4), some (.int x5)], [.ref x0], σ)) r105_87 rfl rfl <| Er.sT (c2 := (89, [some (.ref x0), some (.int x1), some (.int x2), some (.int x3), some (.int x4), some (.int x5)], [.int (4 : Int32), .ref x0], σ)) r105_88 rfl rfl <| Er.sT (c2 := (90, [some (.ref x0), some (.int x1), some (.int x2), some (.int x3), some (.int x4), some (.int x5)], [.int (1 : Int32), .int (4 : Int32), .ref x0], σ)) r105_89 rfl rfl <| (Er.call (vs := [.ref x0, .int (4 : Int32), .int (1 : Int32)]) (rest := []) r105_90 rfl rfl (Nat.le_of_ble_eq_true rfl) (Nat.le_of_ble_eq_true rfl) (fun _ => ⟨_, _, rfl, h1⟩) hy k)
theorem b105_93 {d : Nat} {q : Rs} {x0 : Nat} {x1 : Int32} {x2 : Int32} {x3 : Int32} {x4 : Int32} {x5 : Int32} {σ : St} {σ2 : St} {r : Int32} (h1 : x0 < 24 ∧ kls x0 = 5)
    (hy : Er d 91 (0, ent 91 [.ref x0, .int (0 : Int32)], [], σ) (.inl (some (.int r)), σ2, 0))
    (k : Er (d + 1) 105 (98, [some (.ref x0), some (.int x1), some (.int x2), some (.int x3), some (.int x4), some (.int x5)], [.int r], σ2) q) :
    Er (d + 1) 105 (93, [some (.ref x0), some (.int x1), some (.int x2), some (.int x3), some (.int x4), some (.int x5)], [], σ) q := Er.sT (c2 := (94, [some (.ref x0), some (.int x1), some (.int x2), some (.int x3), some (.int x4), some (.int x5)], [.ref x0], σ)) r105_93 rfl rfl <| Er.sT (c2 := (95, [some (.ref x0), some (.int x1), some (.int x2), some (.int x3), some (.int x4), some (.int x5)], [.int (0 : Int32), .ref x0], σ)) r105_94 rfl rfl <| (Er.call (vs := [.ref x0, .int (0 : Int32)]) (rest := []) r105_95 rfl rfl (Nat.le_of_ble_eq_true rfl) (Nat.le_of_ble_eq_true rfl) (fun _ => ⟨_, _, rfl, h1⟩) hy k)
theorem b105_98 {d : Nat} {q : Rs} {x0 : Nat} {x1 : Int32} {x2 : Int32} {x3 : Int32} {x4 : Int32} {x5 : Int32} {s0 : Int32} {σ : St} 
    (kt : (256 : Int32) < s0 → Er (d + 1) 105 (115, [some (.ref x0), some (.int x1), some (.int x2), some (.int x3), some (.int x4), some (.int x5)], [], σ) q)
    (kf : ¬ (256 : Int32) < s0 → Er (d + 1) 105 (104, [some (.ref x0), some (.int x1), some (.int x2), some (.int x3), some (.int x4), some (.int x5)], [], σ) q) :
    Er (d + 1) 105 (98, [some (.ref x0), some (.int x1), some (.int x2), some (.int x3), some (.int x4), some (.int x5)], [.int s0], σ) q := Er.sT (c2 := (101, [some (.ref x0), some (.int x1), some (.int x2), some (.int x3), some (.int x4), some (.int x5)], [.int (256 : Int32), .int s0], σ)) r105_98 rfl rfl <| Er.sT (c2 := (brn .gt s0 (256 : Int32) 115 104, [some (.ref x0), some (.int x1), some (.int x2), some (.int x3), some (.int x4), some (.int x5)], [], σ)) r105_101 rfl rfl <| (br_gt kt kf)
theorem b105_104 {d : Nat} {q : Rs} {x0 : Nat} {x1 : Int32} {x2 : Int32} {x3 : Int32} {x4 : Int32} {x5 : Int32} {σ : St} {σ2 : St} {r : Int32} (h1 : x0 < 24 ∧ kls x0 = 5)
    (hy : Er d 91 (0, ent 91 [.ref x0, .int (1 : Int32)], [], σ) (.inl (some (.int r)), σ2, 0))
    (k : Er (d + 1) 105 (109, [some (.ref x0), some (.int x1), some (.int x2), some (.int x3), some (.int x4), some (.int x5)], [.int r], σ2) q) :
    Er (d + 1) 105 (104, [some (.ref x0), some (.int x1), some (.int x2), some (.int x3), some (.int x4), some (.int x5)], [], σ) q := Er.sT (c2 := (105, [some (.ref x0), some (.int x1), some (.int x2), some (.int x3), some (.int x4), some (.int x5)], [.ref x0], σ)) r105_104 rfl rfl <| Er.sT (c2 := (106, [some (.ref x0), some (.int x1), some (.int x2), some (.int x3), some (.int x4), some (.int x5)], [.int (1 : Int32), .ref x0], σ)) r105_105 rfl rfl <| (Er.call (vs := [.ref x0, .int (1 : Int32)]) (rest := []) r105_106 rfl rfl (Nat.le_of_ble_eq_true rfl) (Nat.le_of_ble_eq_true rfl) (fun _ => ⟨_, _, rfl, h1⟩) hy k)
theorem b105_109 {d : Nat} {q : Rs} {x0 : Nat} {x1 : Int32} {x2 : Int32} {x3 : Int32} {x4 : Int32} {x5 : Int32} {s0 : Int32} {σ : St} 
    (kt : s0 ≤ (256 : Int32) → Er (d + 1) 105 (121, [some (.ref x0), some (.int x1), some (.int x2), some (.int x3), some (.int x4), some (.int x5)], [], σ) q)
    (kf : ¬ s0 ≤ (256 : Int32) → Er (d + 1) 105 (115, [some (.ref x0), some (.int x1), some (.int x2), some (.int x3), some (.int x4), some (.int x5)], [], σ) q) :
    Er (d + 1) 105 (109, [some (.ref x0), some (.int x1), some (.int x2), some (.int x3), some (.int x4), some (.int x5)], [.int s0], σ) q := Er.sT (c2 := (112, [some (.ref x0), some (.int x1), some (.int x2), some (.int x3), some (.int x4), some (.int x5)], [.int (256 : Int32), .int s0], σ)) r105_109 rfl rfl <| Er.sT (c2 := (brn .le s0 (256 : Int32) 121 115, [some (.ref x0), some (.int x1), some (.int x2), some (.int x3), some (.int x4), some (.int x5)], [], σ)) r105_112 rfl rfl <| (br_le kt kf)
theorem b105_115 {d : Nat} {q : Rs} {x0 : Nat} {x1 : Int32} {x2 : Int32} {x3 : Int32} {x4 : Int32} {x5 : Int32} {σ : St} {σ2 : St} {r : Int32} (h1 : x0 < 24 ∧ kls x0 = 5)
    (hy : Er d 93 (0, ent 93 [.ref x0, .int (4 : Int32)], [], σ) (.inl (some (.int r)), σ2, 0))
    (k : Er (d + 1) 105 (120, [some (.ref x0), some (.int x1), some (.int x2), some (.int x3), some (.int x4), some (.int x5)], [.int r], σ2) q) :
    Er (d + 1) 105 (115, [some (.ref x0), some (.int x1), some (.int x2), some (.int x3), some (.int x4), some (.int x5)], [], σ) q := Er.sT (c2 := (116, [some (.ref x0), some (.int x1), some (.int x2), some (.int x3), some (.int x4), some (.int x5)], [.ref x0], σ)) r105_115 rfl rfl <| Er.sT (c2 := (117, [some (.ref x0), some (.int x1), some (.int x2), some (.int x3), some (.int x4), some (.int x5)], [.int (4 : Int32), .ref x0], σ)) r105_116 rfl rfl <| (Er.call (vs := [.ref x0, .int (4 : Int32)]) (rest := []) r105_117 rfl rfl (Nat.le_of_ble_eq_true rfl) (Nat.le_of_ble_eq_true rfl) (fun _ => ⟨_, _, rfl, h1⟩) hy k)
theorem b105_120 {d : Nat} {x0 : Nat} {x1 : Int32} {x2 : Int32} {x3 : Int32} {x4 : Int32} {x5 : Int32} {s0 : Int32} {σ : St}  :
    Er (d + 1) 105 (120, [some (.ref x0), some (.int x1), some (.int x2), some (.int x3), some (.int x4), some (.int x5)], [.int s0], σ) (.inl (some (.int s0)), σ, 0) := (Er.ret r105_120 rfl ⟨_, _, rfl, rfl, rfl, rfl⟩)
theorem b105_121 {d : Nat} {q : Rs} {x0 : Nat} {x1 : Int32} {x2 : Int32} {x3 : Int32} {x4 : Int32} {x5 : Int32} {σ : St} 
    (k : Er (d + 1) 105 (61, [some (.ref x0), some (.int x1), some (.int x2), some (.int x3), some (.int x4), some (.int (x5 + (1 : Int32)))], [], σ) q) :
    Er (d + 1) 105 (121, [some (.ref x0), some (.int x1), some (.int x2), some (.int x3), some (.int x4), some (.int x5)], [], σ) q := Er.sT (c2 := (124, [some (.ref x0), some (.int x1), some (.int x2), some (.int x3), some (.int x4), some (.int (x5 + (1 : Int32)))], [], σ)) r105_121 rfl rfl <| Er.sT (c2 := (61, [some (.ref x0), some (.int x1), some (.int x2), some (.int x3), some (.int x4), some (.int (x5 + (1 : Int32)))], [], σ)) r105_124 rfl rfl <| k
theorem b105_127 {d : Nat} {q : Rs} {x0 : Nat} {x1 : Int32} {x2 : Int32} {x3 : Int32} {x4 : Int32} {x5 : Int32} {σ : St} 
    (kt : (0 : Int32) ≤ x2 → Er (d + 1) 105 (137, [some (.ref x0), some (.int x1), some (.int x2), some (.int x3), some (.int x4), some (.int x5)], [], σ) q)
    (kf : ¬ (0 : Int32) ≤ x2 → Er (d + 1) 105 (131, [some (.ref x0), some (.int x1), some (.int x2), some (.int x3), some (.int x4), some (.int x5)], [], σ) q) :
    Er (d + 1) 105 (127, [some (.ref x0), some (.int x1), some (.int x2), some (.int x3), some (.int x4), some (.int x5)], [], σ) q := Er.sT (c2 := (128, [some (.ref x0), some (.int x1), some (.int x2), some (.int x3), some (.int x4), some (.int x5)], [.int x2], σ)) r105_127 rfl rfl <| Er.sT (c2 := (brn .ge x2 (0 : Int32) 137 131, [some (.ref x0), some (.int x1), some (.int x2), some (.int x3), some (.int x4), some (.int x5)], [], σ)) r105_128 rfl rfl <| (br_ge kt kf)
theorem b105_131 {d : Nat} {q : Rs} {x0 : Nat} {x1 : Int32} {x2 : Int32} {x3 : Int32} {x4 : Int32} {x5 : Int32} {σ : St} {σ2 : St}  (h1 : x0 < 24 ∧ kls x0 = 5)
    (hy : Er d 87 (0, ent 87 [.ref x0, .int (0 : Int32), .int (1 : Int32)], [], σ) (.inl none, σ2, 0))
    (k : Er (d + 1) 105 (137, [some (.ref x0), some (.int x1), some (.int x2), some (.int x3), some (.int x4), some (.int x5)], [], σ2) q) :
    Er (d + 1) 105 (131, [some (.ref x0), some (.int x1), some (.int x2), some (.int x3), some (.int x4), some (.int x5)], [], σ) q := Er.sT (c2 := (132, [some (.ref x0), some (.int x1), some (.int x2), some (.int x3), some (.int x4), some (.int x5)], [.ref x0], σ)) r105_131 rfl rfl <| Er.sT (c2 := (133, [some (.ref x0), some (.int x1), some (.int x2), some (.int x3), some (.int x4), some (.int x5)], [.int (0 : Int32), .ref x0], σ)) r105_132 rfl rfl <| Er.sT (c2 := (134, [some (.ref x0), some (.int x1), some (.int x2), some (.int x3), some (.int x4), some (.int x5)], [.int (1 : Int32), .int (0 : Int32), .ref x0], σ)) r105_133 rfl rfl <| (Er.call (vs := [.ref x0, .int (0 : Int32), .int (1 : Int32)]) (rest := []) r105_134 rfl rfl (Nat.le_of_ble_eq_true rfl) (Nat.le_of_ble_eq_true rfl) (fun _ => ⟨_, _, rfl, h1⟩) hy k)
theorem b105_137 {d : Nat} {q : Rs} {x0 : Nat} {x1 : Int32} {x2 : Int32} {x3 : Int32} {x4 : Int32} {x5 : Int32} {σ : St} {σ2 : St} {r : Int32} (h1 : x0 < 24 ∧ kls x0 = 5)
    (hy : Er d 80 (0, ent 80 [.ref x0, .int x4, .int (4 : Int32)], [], σ) (.inl (some (.int r)), σ2, 0))
    (k : Er (d + 1) 105 (144, [some (.ref x0), some (.int x1), some (.int x2), some (.int x3), some (.int x4), some (.int x5)], [.int r], σ2) q) :
    Er (d + 1) 105 (137, [some (.ref x0), some (.int x1), some (.int x2), some (.int x3), some (.int x4), some (.int x5)], [], σ) q := Er.sT (c2 := (138, [some (.ref x0), some (.int x1), some (.int x2), some (.int x3), some (.int x4), some (.int x5)], [.ref x0], σ)) r105_137 rfl rfl <| Er.sT (c2 := (140, [some (.ref x0), some (.int x1), some (.int x2), some (.int x3), some (.int x4), some (.int x5)], [.int x4, .ref x0], σ)) r105_138 rfl rfl <| Er.sT (c2 := (141, [some (.ref x0), some (.int x1), some (.int x2), some (.int x3), some (.int x4), some (.int x5)], [.int (4 : Int32), .int x4, .ref x0], σ)) r105_140 rfl rfl <| (Er.call (vs := [.ref x0, .int x4, .int (4 : Int32)]) (rest := []) r105_141 rfl rfl (Nat.le_of_ble_eq_true rfl) (Nat.le_of_ble_eq_true rfl) (fun _ => ⟨_, _, rfl, h1⟩) hy k)
theorem b105_144 {d : Nat} {x0 : Nat} {x1 : Int32} {x2 : Int32} {x3 : Int32} {x4 : Int32} {x5 : Int32} {s0 : Int32} {σ : St}  :
    Er (d + 1) 105 (144, [some (.ref x0), some (.int x1), some (.int x2), some (.int x3), some (.int x4), some (.int x5)], [.int s0], σ) (.inl (some (.int s0)), σ, 0) := (Er.ret r105_144 rfl ⟨_, _, rfl, rfl, rfl, rfl⟩)
/-! NumberModelsModel.loadP(II)V -/
theorem tab_106 : tab 106 = tb106_0 := rfl
theorem ch106_0 {j : Nat} {r : Row} (h : tb106_0[j]? = some r) : rowAt 106 r.1 = some r := row_mem 106 (by decide) (by rw [tab_106]; exact List.mem_of_getElem? h)
theorem r106_0 : rowAt 106 0 = some (r0 0 1 (.aload_n 0)) := ch106_0 (j := 0) rfl
theorem r106_1 : rowAt 106 1 = some (ra 1 2 (.iload_n 2) 2 0 0) := ch106_0 (j := 1) rfl
theorem r106_2 : rowAt 106 2 = some (ra 2 5 (.invokevirtual 24) 79 2 919) := ch106_0 (j := 2) rfl
theorem r106_5 : rowAt 106 5 = some (r0 5 6 (.iconst 0)) := ch106_0 (j := 3) rfl
theorem r106_6 : rowAt 106 6 = some (ra 6 7 (.istore_n 3) 3 0 0) := ch106_0 (j := 4) rfl
theorem r106_7 : rowAt 106 7 = some (ra 7 8 (.iload_n 3) 3 0 0) := ch106_0 (j := 5) rfl
theorem r106_8 : rowAt 106 8 = some (8, 10, .bipush 8, 0, 0, 0, 8, 0) := ch106_0 (j := 6) rfl
theorem r106_10 : rowAt 106 10 = some (ra 10 13 (.if_icmp .ge 31) 41 0 0) := ch106_0 (j := 7) rfl
theorem r106_13 : rowAt 106 13 = some (r0 13 14 (.aload_n 0)) := ch106_0 (j := 8) rfl
theorem r106_14 : rowAt 106 14 = some (ra 14 17 (.getfield 17) 4 5 877) := ch106_0 (j := 9) rfl
theorem r106_17 : rowAt 106 17 = some (17, 19, .bipush 64, 0, 0, 0, 64, 0) := ch106_0 (j := 10) rfl
theorem r106_19 : rowAt 106 19 = some (ra 19 20 (.iload_n 2) 2 0 0) := ch106_0 (j := 11) rfl
theorem r106_20 : rowAt 106 20 = some (r0 20 21 (.imul)) := ch106_0 (j := 12) rfl
theorem r106_21 : rowAt 106 21 = some (ra 21 22 (.iload_n 3) 3 0 0) := ch106_0 (j := 13) rfl
theorem r106_22 : rowAt 106 22 = some (r0 22 23 (.iadd)) := ch106_0 (j := 14) rfl
theorem r106_23 : rowAt 106 23 = some (r0 23 24 (.aload_n 0)) := ch106_0 (j := 15) rfl
theorem r106_24 : rowAt 106 24 = some (ra 24 27 (.getfield 13) 3 5 876) := ch106_0 (j := 16) rfl
theorem r106_27 : rowAt 106 27 = some (27, 29, .bipush 16, 0, 0, 0, 16, 0) := ch106_0 (j := 17) rfl
theorem r106_29 : rowAt 106 29 = some (ra 29 30 (.iload_n 1) 1 0 0) := ch106_0 (j := 18) rfl
theorem r106_30 : rowAt 106 30 = some (r0 30 31 (.imul)) := ch106_0 (j := 19) rfl
theorem r106_31 : rowAt 106 31 = some (ra 31 32 (.iload_n 3) 3 0 0) := ch106_0 (j := 20) rfl
theorem r106_32 : rowAt 106 32 = some (r0 32 33 (.iadd)) := ch106_0 (j := 21) rfl
theorem r106_33 : rowAt 106 33 = some (r0 33 34 (.laload)) := ch106_0 (j := 22) rfl
theorem r106_34 : rowAt 106 34 = some (r0 34 35 (.lastore)) := ch106_0 (j := 23) rfl
theorem r106_35 : rowAt 106 35 = some (35, 38, .iinc 3 1, 3, 0, 0, 1, 0) := ch106_0 (j := 24) rfl
theorem r106_38 : rowAt 106 38 = some (ra 38 41 (.goto (-31)) 7 0 0) := ch106_0 (j := 25) rfl
theorem r106_41 : rowAt 106 41 = some (r0 41 42 (.return_)) := ch106_0 (j := 26) rfl
theorem b106_0 {d : Nat} {q : Rs} {x0 : Nat} {x1 : Int32} {x2 : Int32} {σ : St} {σ2 : St}  (h1 : x0 < 24 ∧ kls x0 = 5)
    (hy : Er d 79 (0, ent 79 [.ref x0, .int x2], [], σ) (.inl none, σ2, 0))
    (k : Er (d + 1) 106 (5, [some (.ref x0), some (.int x1), some (.int x2), none], [], σ2) q) :
    Er (d + 1) 106 (0, [some (.ref x0), some (.int x1), some (.int x2), none], [], σ) q := Er.sT (c2 := (1, [some (.ref x0), some (.int x1), some (.int x2), none], [.ref x0], σ)) r106_0 rfl rfl <| Er.sT (c2 := (2, [some (.ref x0), some (.int x1), some (.int x2), none], [.int x2, .ref x0], σ)) r106_1 rfl rfl <| (Er.call (vs := [.ref x0, .int x2]) (rest := []) r106_2 rfl rfl (Nat.le_of_ble_eq_true rfl) (Nat.le_of_ble_eq_true rfl) (fun _ => ⟨_, _, rfl, h1⟩) hy k)
theorem b106_5 {d : Nat} {q : Rs} {x0 : Nat} {x1 : Int32} {x2 : Int32} {σ : St} 
    (k : Er (d + 1) 106 (7, [some (.ref x0), some (.int x1), some (.int x2), some (.int (0 : Int32))], [], σ) q) :
    Er (d + 1) 106 (5, [some (.ref x0), some (.int x1), some (.int x2), none], [], σ) q := Er.sT (c2 := (6, [some (.ref x0), some (.int x1), some (.int x2), none], [.int (0 : Int32)], σ)) r106_5 rfl rfl <| Er.sT (c2 := (7, [some (.ref x0), some (.int x1), some (.int x2), some (.int (0 : Int32))], [], σ)) r106_6 rfl rfl <| k
theorem b106_7 {d : Nat} {q : Rs} {x0 : Nat} {x1 : Int32} {x2 : Int32} {x3 : Int32} {σ : St} 
    (kt : (8 : Int32) ≤ x3 → Er (d + 1) 106 (41, [some (.ref x0), some (.int x1), some (.int x2), some (.int x3)], [], σ) q)
    (kf : ¬ (8 : Int32) ≤ x3 → Er (d + 1) 106 (13, [some (.ref x0), some (.int x1), some (.int x2), some (.int x3)], [], σ) q) :
    Er (d + 1) 106 (7, [some (.ref x0), some (.int x1), some (.int x2), some (.int x3)], [], σ) q := Er.sT (c2 := (8, [some (.ref x0), some (.int x1), some (.int x2), some (.int x3)], [.int x3], σ)) r106_7 rfl rfl <| Er.sT (c2 := (10, [some (.ref x0), some (.int x1), some (.int x2), some (.int x3)], [.int (8 : Int32), .int x3], σ)) r106_8 rfl rfl <| Er.sT (c2 := (brn .ge x3 (8 : Int32) 41 13, [some (.ref x0), some (.int x1), some (.int x2), some (.int x3)], [], σ)) r106_10 rfl rfl <| (br_ge kt kf)
theorem b106_13 {d : Nat} {q : Rs} {x0 : Nat} {x1 : Int32} {x2 : Int32} {x3 : Int32} {σ : St} (h1 : x0 < 24 ∧ kls x0 = 5) (h2 : isL (fr x0 3) ∧ vp_in (((16 : Int32) * x1) + x3) (ale (fr x0 3))) (h3 : isL (fr x0 4) ∧ vp_in (((64 : Int32) * x2) + x3) (ale (fr x0 4)))
    (k : Er (d + 1) 106 (7, [some (.ref x0), some (.int x1), some (.int x2), some (.int (x3 + (1 : Int32)))], [], (sal σ (fr x0 4) (((64 : Int32) * x2) + x3).toNatClampNeg (gal σ (fr x0 3) (((16 : Int32) * x1) + x3).toNatClampNeg))) q) :
    Er (d + 1) 106 (13, [some (.ref x0), some (.int x1), some (.int x2), some (.int x3)], [], σ) q := Er.sT (c2 := (14, [some (.ref x0), some (.int x1), some (.int x2), some (.int x3)], [.ref x0], σ)) r106_13 rfl rfl <| Er.st (P := (x0 < 24 ∧ kls x0 = 5)) (c2 := (17, [some (.ref x0), some (.int x1), some (.int x2), some (.int x3)], [.ref (fr x0 4)], σ)) r106_14 rfl rfl h1 <| Er.sT (c2 := (19, [some (.ref x0), some (.int x1), some (.int x2), some (.int x3)], [.int (64 : Int32), .ref (fr x0 4)], σ)) r106_17 rfl rfl <| Er.sT (c2 := (20, [some (.ref x0), some (.int x1), some (.int x2), some (.int x3)], [.int x2, .int (64 : Int32), .ref (fr x0 4)], σ)) r106_19 rfl rfl <| Er.sT (c2 := (21, [some (.ref x0), some (.int x1), some (.int x2), some (.int x3)], [.int ((64 : Int32) * x2), .ref (fr x0 4)], σ)) r106_20 rfl rfl <| Er.sT (c2 := (22, [some (.ref x0), some (.int x1), some (.int x2), some (.int x3)], [.int x3, .int ((64 : Int32) * x2), .ref (fr x0 4)], σ)) r106_21 rfl rfl <| Er.sT (c2 := (23, [some (.ref x0), some (.int x1), some (.int x2), some (.int x3)], [.int (((64 : Int32) * x2) + x3), .ref (fr x0 4)], σ)) r106_22 rfl rfl <| Er.sT (c2 := (24, [some (.ref x0), some (.int x1), some (.int x2), some (.int x3)], [.ref x0, .int (((64 : Int32) * x2) + x3), .ref (fr x0 4)], σ)) r106_23 rfl rfl <| Er.st (P := (x0 < 24 ∧ kls x0 = 5)) (c2 := (27, [some (.ref x0), some (.int x1), some (.int x2), some (.int x3)], [.ref (fr x0 3), .int (((64 : Int32) * x2) + x3), .ref (fr x0 4)], σ)) r106_24 rfl rfl h1 <| Er.sT (c2 := (29, [some (.ref x0), some (.int x1), some (.int x2), some (.int x3)], [.int (16 : Int32), .ref (fr x0 3), .int (((64 : Int32) * x2) + x3), .ref (fr x0 4)], σ)) r106_27 rfl rfl <| Er.sT (c2 := (30, [some (.ref x0), some (.int x1), some (.int x2), some (.int x3)], [.int x1, .int (16 : Int32), .ref (fr x0 3), .int (((64 : Int32) * x2) + x3), .ref (fr x0 4)], σ)) r106_29 rfl rfl <| Er.sT (c2 := (31, [some (.ref x0), some (.int x1), some (.int x2), some (.int x3)], [.int ((16 : Int32) * x1), .ref (fr x0 3), .int (((64 : Int32) * x2) + x3), .ref (fr x0 4)], σ)) r106_30 rfl rfl <| Er.sT (c2 := (32, [some (.ref x0), some (.int x1), some (.int x2), some (.int x3)], [.int x3, .int ((16 : Int32) * x1), .ref (fr x0 3), .int (((64 : Int32) * x2) + x3), .ref (fr x0 4)], σ)) r106_31 rfl rfl <| Er.sT (c2 := (33, [some (.ref x0), some (.int x1), some (.int x2), some (.int x3)], [.int (((16 : Int32) * x1) + x3), .ref (fr x0 3), .int (((64 : Int32) * x2) + x3), .ref (fr x0 4)], σ)) r106_32 rfl rfl <| Er.st (P := (isL (fr x0 3) ∧ vp_in (((16 : Int32) * x1) + x3) (ale (fr x0 3)))) (c2 := (34, [some (.ref x0), some (.int x1), some (.int x2), some (.int x3)], [.long (gal σ (fr x0 3) (((16 : Int32) * x1) + x3).toNatClampNeg), .int (((64 : Int32) * x2) + x3), .ref (fr x0 4)], σ)) r106_33 rfl rfl h2 <| Er.st (P := (isL (fr x0 4) ∧ vp_in (((64 : Int32) * x2) + x3) (ale (fr x0 4)))) (c2 := (35, [some (.ref x0), some (.int x1), some (.int x2), some (.int x3)], [], (sal σ (fr x0 4) (((64 : Int32) * x2) + x3).toNatClampNeg (gal σ (fr x0 3) (((16 : Int32) * x1) + x3).toNatClampNeg)))) r106_34 rfl rfl h3 <| Er.sT (c2 := (38, [some (.ref x0), some (.int x1), some (.int x2), some (.int (x3 + (1 : Int32)))], [], (sal σ (fr x0 4) (((64 : Int32) * x2) + x3).toNatClampNeg (gal σ (fr x0 3) (((16 : Int32) * x1) + x3).toNatClampNeg)))) r106_35 rfl rfl <| Er.sT (c2 := (7, [some (.ref x0), some (.int x1), some (.int x2), some (.int (x3 + (1 : Int32)))], [], (sal σ (fr x0 4) (((64 : Int32) * x2) + x3).toNatClampNeg (gal σ (fr x0 3) (((16 : Int32) * x1) + x3).toNatClampNeg)))) r106_38 rfl rfl <| k
theorem b106_41 {d : Nat} {x0 : Nat} {x1 : Int32} {x2 : Int32} {x3 : Int32} {σ : St}  :
    Er (d + 1) 106 (41, [some (.ref x0), some (.int x1), some (.int x2), some (.int x3)], [], σ) (.inl none, σ, 0) := (Er.ret r106_41 rfl ⟨rfl, rfl, rfl⟩)
/-! NumberModelsModel.loadQ(II)V -/
theorem tab_107 : tab 107 = tb107_0 := rfl
theorem ch107_0 {j : Nat} {r : Row} (h : tb107_0[j]? = some r) : rowAt 107 r.1 = some r := row_mem 107 (by decide) (by rw [tab_107]; exact List.mem_of_getElem? h)
theorem r107_0 : rowAt 107 0 = some (r0 0 1 (.aload_n 0)) := ch107_0 (j := 0) rfl
theorem r107_1 : rowAt 107 1 = some (ra 1 2 (.iload_n 2) 2 0 0) := ch107_0 (j := 1) rfl
theorem r107_2 : rowAt 107 2 = some (ra 2 5 (.invokevirtual 24) 79 2 919) := ch107_0 (j := 2) rfl
theorem r107_5 : rowAt 107 5 = some (r0 5 6 (.iconst 0)) := ch107_0 (j := 3) rfl
theorem r107_6 : rowAt 107 6 = some (ra 6 7 (.istore_n 3) 3 0 0) := ch107_0 (j := 4) rfl
theorem r107_7 : rowAt 107 7 = some (ra 7 8 (.iload_n 3) 3 0 0) := ch107_0 (j := 5) rfl
theorem r107_8 : rowAt 107 8 = some (8, 10, .bipush 8, 0, 0, 0, 8, 0) := ch107_0 (j := 6) rfl
theorem r107_10 : rowAt 107 10 = some (ra 10 13 (.if_icmp .ge 34) 44 0 0) := ch107_0 (j := 7) rfl
theorem r107_13 : rowAt 107 13 = some (r0 13 14 (.aload_n 0)) := ch107_0 (j := 8) rfl
theorem r107_14 : rowAt 107 14 = some (ra 14 17 (.getfield 17) 4 5 877) := ch107_0 (j := 9) rfl
theorem r107_17 : rowAt 107 17 = some (17, 19, .bipush 64, 0, 0, 0, 64, 0) := ch107_0 (j := 10) rfl
theorem r107_19 : rowAt 107 19 = some (ra 19 20 (.iload_n 2) 2 0 0) := ch107_0 (j := 11) rfl
theorem r107_20 : rowAt 107 20 = some (r0 20 21 (.imul)) := ch107_0 (j := 12) rfl
theorem r107_21 : rowAt 107 21 = some (ra 21 22 (.iload_n 3) 3 0 0) := ch107_0 (j := 13) rfl
theorem r107_22 : rowAt 107 22 = some (r0 22 23 (.iadd)) := ch107_0 (j := 14) rfl
theorem r107_23 : rowAt 107 23 = some (r0 23 24 (.aload_n 0)) := ch107_0 (j := 15) rfl
theorem r107_24 : rowAt 107 24 = some (ra 24 27 (.getfield 13) 3 5 876) := ch107_0 (j := 16) rfl
theorem r107_27 : rowAt 107 27 = some (27, 29, .bipush 16, 0, 0, 0, 16, 0) := ch107_0 (j := 17) rfl
theorem r107_29 : rowAt 107 29 = some (ra 29 30 (.iload_n 1) 1 0 0) := ch107_0 (j := 18) rfl
theorem r107_30 : rowAt 107 30 = some (r0 30 31 (.imul)) := ch107_0 (j := 19) rfl
theorem r107_31 : rowAt 107 31 = some (31, 33, .bipush 8, 0, 0, 0, 8, 0) := ch107_0 (j := 20) rfl
theorem r107_33 : rowAt 107 33 = some (r0 33 34 (.iadd)) := ch107_0 (j := 21) rfl
theorem r107_34 : rowAt 107 34 = some (ra 34 35 (.iload_n 3) 3 0 0) := ch107_0 (j := 22) rfl
theorem r107_35 : rowAt 107 35 = some (r0 35 36 (.iadd)) := ch107_0 (j := 23) rfl
theorem r107_36 : rowAt 107 36 = some (r0 36 37 (.laload)) := ch107_0 (j := 24) rfl
theorem r107_37 : rowAt 107 37 = some (r0 37 38 (.lastore)) := ch107_0 (j := 25) rfl
theorem r107_38 : rowAt 107 38 = some (38, 41, .iinc 3 1, 3, 0, 0, 1, 0) := ch107_0 (j := 26) rfl
theorem r107_41 : rowAt 107 41 = some (ra 41 44 (.goto (-34)) 7 0 0) := ch107_0 (j := 27) rfl
theorem r107_44 : rowAt 107 44 = some (r0 44 45 (.return_)) := ch107_0 (j := 28) rfl
theorem b107_0 {d : Nat} {q : Rs} {x0 : Nat} {x1 : Int32} {x2 : Int32} {σ : St} {σ2 : St}  (h1 : x0 < 24 ∧ kls x0 = 5)
    (hy : Er d 79 (0, ent 79 [.ref x0, .int x2], [], σ) (.inl none, σ2, 0))
    (k : Er (d + 1) 107 (5, [some (.ref x0), some (.int x1), some (.int x2), none], [], σ2) q) :
    Er (d + 1) 107 (0, [some (.ref x0), some (.int x1), some (.int x2), none], [], σ) q := Er.sT (c2 := (1, [some (.ref x0), some (.int x1), some (.int x2), none], [.ref x0], σ)) r107_0 rfl rfl <| Er.sT (c2 := (2, [some (.ref x0), some (.int x1), some (.int x2), none], [.int x2, .ref x0], σ)) r107_1 rfl rfl <| (Er.call (vs := [.ref x0, .int x2]) (rest := []) r107_2 rfl rfl (Nat.le_of_ble_eq_true rfl) (Nat.le_of_ble_eq_true rfl) (fun _ => ⟨_, _, rfl, h1⟩) hy k)
theorem b107_5 {d : Nat} {q : Rs} {x0 : Nat} {x1 : Int32} {x2 : Int32} {σ : St} 
    (k : Er (d + 1) 107 (7, [some (.ref x0), some (.int x1), some (.int x2), some (.int (0 : Int32))], [], σ) q) :
    Er (d + 1) 107 (5, [some (.ref x0), some (.int x1), some (.int x2), none], [], σ) q := Er.sT (c2 := (6, [some (.ref x0), some (.int x1), some (.int x2), none], [.int (0 : Int32)], σ)) r107_5 rfl rfl <| Er.sT (c2 := (7, [some (.ref x0), some (.int x1), some (.int x2), some (.int (0 : Int32))], [], σ)) r107_6 rfl rfl <| k
theorem b107_7 {d : Nat} {q : Rs} {x0 : Nat} {x1 : Int32} {x2 : Int32} {x3 : Int32} {σ : St} 
    (kt : (8 : Int32) ≤ x3 → Er (d + 1) 107 (44, [some (.ref x0), some (.int x1), some (.int x2), some (.int x3)], [], σ) q)
    (kf : ¬ (8 : Int32) ≤ x3 → Er (d + 1) 107 (13, [some (.ref x0), some (.int x1), some (.int x2), some (.int x3)], [], σ) q) :
    Er (d + 1) 107 (7, [some (.ref x0), some (.int x1), some (.int x2), some (.int x3)], [], σ) q := Er.sT (c2 := (8, [some (.ref x0), some (.int x1), some (.int x2), some (.int x3)], [.int x3], σ)) r107_7 rfl rfl <| Er.sT (c2 := (10, [some (.ref x0), some (.int x1), some (.int x2), some (.int x3)], [.int (8 : Int32), .int x3], σ)) r107_8 rfl rfl <| Er.sT (c2 := (brn .ge x3 (8 : Int32) 44 13, [some (.ref x0), some (.int x1), some (.int x2), some (.int x3)], [], σ)) r107_10 rfl rfl <| (br_ge kt kf)
theorem b107_13 {d : Nat} {q : Rs} {x0 : Nat} {x1 : Int32} {x2 : Int32} {x3 : Int32} {σ : St} (h1 : x0 < 24 ∧ kls x0 = 5) (h2 : isL (fr x0 3) ∧ vp_in ((((16 : Int32) * x1) + (8 : Int32)) + x3) (ale (fr x0 3))) (h3 : isL (fr x0 4) ∧ vp_in (((64 : Int32) * x2) + x3) (ale (fr x0 4)))
    (k : Er (d + 1) 107 (7, [some (.ref x0), some (.int x1), some (.int x2), some (.int (x3 + (1 : Int32)))], [], (sal σ (fr x0 4) (((64 : Int32) * x2) + x3).toNatClampNeg (gal σ (fr x0 3) ((((16 : Int32) * x1) + (8 : Int32)) + x3).toNatClampNeg))) q) :
    Er (d + 1) 107 (13, [some (.ref x0), some (.int x1), some (.int x2), some (.int x3)], [], σ) q := Er.sT (c2 := (14, [some (.ref x0), some (.int x1), some (.int x2), some (.int x3)], [.ref x0], σ)) r107_13 rfl rfl <| Er.st (P := (x0 < 24 ∧ kls x0 = 5)) (c2 := (17, [some (.ref x0), some (.int x1), some (.int x2), some (.int x3)], [.ref (fr x0 4)], σ)) r107_14 rfl rfl h1 <| Er.sT (c2 := (19, [some (.ref x0), some (.int x1), some (.int x2), some (.int x3)], [.int (64 : Int32), .ref (fr x0 4)], σ)) r107_17 rfl rfl <| Er.sT (c2 := (20, [some (.ref x0), some (.int x1), some (.int x2), some (.int x3)], [.int x2, .int (64 : Int32), .ref (fr x0 4)], σ)) r107_19 rfl rfl <| Er.sT (c2 := (21, [some (.ref x0), some (.int x1), some (.int x2), some (.int x3)], [.int ((64 : Int32) * x2), .ref (fr x0 4)], σ)) r107_20 rfl rfl <| Er.sT (c2 := (22, [some (.ref x0), some (.int x1), some (.int x2), some (.int x3)], [.int x3, .int ((64 : Int32) * x2), .ref (fr x0 4)], σ)) r107_21 rfl rfl <| Er.sT (c2 := (23, [some (.ref x0), some (.int x1), some (.int x2), some (.int x3)], [.int (((64 : Int32) * x2) + x3), .ref (fr x0 4)], σ)) r107_22 rfl rfl <| Er.sT (c2 := (24, [some (.ref x0), some (.int x1), some (.int x2), some (.int x3)], [.ref x0, .int (((64 : Int32) * x2) + x3), .ref (fr x0 4)], σ)) r107_23 rfl rfl <| Er.st (P := (x0 < 24 ∧ kls x0 = 5)) (c2 := (27, [some (.ref x0), some (.int x1), some (.int x2), some (.int x3)], [.ref (fr x0 3), .int (((64 : Int32) * x2) + x3), .ref (fr x0 4)], σ)) r107_24 rfl rfl h1 <| Er.sT (c2 := (29, [some (.ref x0), some (.int x1), some (.int x2), some (.int x3)], [.int (16 : Int32), .ref (fr x0 3), .int (((64 : Int32) * x2) + x3), .ref (fr x0 4)], σ)) r107_27 rfl rfl <| Er.sT (c2 := (30, [some (.ref x0), some (.int x1), some (.int x2), some (.int x3)], [.int x1, .int (16 : Int32), .ref (fr x0 3), .int (((64 : Int32) * x2) + x3), .ref (fr x0 4)], σ)) r107_29 rfl rfl <| Er.sT (c2 := (31, [some (.ref x0), some (.int x1), some (.int x2), some (.int x3)], [.int ((16 : Int32) * x1), .ref (fr x0 3), .int (((64 : Int32) * x2) + x3), .ref (fr x0 4)], σ)) r107_30 rfl rfl <| Er.sT (c2 := (33, [some (.ref x0), some (.int x1), some (.int x2), some (.int x3)], [.int (8 : Int32), .int ((16 : Int32) * x1), .ref (fr x0 3), .int (((64 : Int32) * x2) + x3), .ref (fr x0 4)], σ)) r107_31 rfl rfl <| Er.sT (c2 := (34, [some (.ref x0), some (.int x1), some (.int x2), some (.int x3)], [.int (((16 : Int32) * x1) + (8 : Int32)), .ref (fr x0 3), .int (((64 : Int32) * x2) + x3), .ref (fr x0 4)], σ)) r107_33 rfl rfl <| Er.sT (c2 := (35, [some (.ref x0), some (.int x1), some (.int x2), some (.int x3)], [.int x3, .int (((16 : Int32) * x1) + (8 : Int32)), .ref (fr x0 3), .int (((64 : Int32) * x2) + x3), .ref (fr x0 4)], σ)) r107_34 rfl rfl <| Er.sT (c2 := (36, [some (.ref x0), some (.int x1), some (.int x2), some (.int x3)], [.int ((((16 : Int32) * x1) + (8 : Int32)) + x3), .ref (fr x0 3), .int (((64 : Int32) * x2) + x3), .ref (fr x0 4)], σ)) r107_35 rfl rfl <| Er.st (P := (isL (fr x0 3) ∧ vp_in ((((16 : Int32) * x1) + (8 : Int32)) + x3) (ale (fr x0 3)))) (c2 := (37, [some (.ref x0), some (.int x1), some (.int x2), some (.int x3)], [.long (gal σ (fr x0 3) ((((16 : Int32) * x1) + (8 : Int32)) + x3).toNatClampNeg), .int (((64 : Int32) * x2) + x3), .ref (fr x0 4)], σ)) r107_36 rfl rfl h2 <| Er.st (P := (isL (fr x0 4) ∧ vp_in (((64 : Int32) * x2) + x3) (ale (fr x0 4)))) (c2 := (38, [some (.ref x0), some (.int x1), some (.int x2), some (.int x3)], [], (sal σ (fr x0 4) (((64 : Int32) * x2) + x3).toNatClampNeg (gal σ (fr x0 3) ((((16 : Int32) * x1) + (8 : Int32)) + x3).toNatClampNeg)))) r107_37 rfl rfl h3 <| Er.sT (c2 := (41, [some (.ref x0), some (.int x1), some (.int x2), some (.int (x3 + (1 : Int32)))], [], (sal σ (fr x0 4) (((64 : Int32) * x2) + x3).toNatClampNeg (gal σ (fr x0 3) ((((16 : Int32) * x1) + (8 : Int32)) + x3).toNatClampNeg)))) r107_38 rfl rfl <| Er.sT (c2 := (7, [some (.ref x0), some (.int x1), some (.int x2), some (.int (x3 + (1 : Int32)))], [], (sal σ (fr x0 4) (((64 : Int32) * x2) + x3).toNatClampNeg (gal σ (fr x0 3) ((((16 : Int32) * x1) + (8 : Int32)) + x3).toNatClampNeg)))) r107_41 rfl rfl <| k
theorem b107_44 {d : Nat} {x0 : Nat} {x1 : Int32} {x2 : Int32} {x3 : Int32} {σ : St}  :
    Er (d + 1) 107 (44, [some (.ref x0), some (.int x1), some (.int x2), some (.int x3)], [], σ) (.inl none, σ, 0) := (Er.ret r107_44 rfl ⟨rfl, rfl, rfl⟩)
