/-! NumberModels$Format.isFinite(J)Z -/
theorem tab_140 : tab 140 = tb140_0 := rfl
theorem ch140_0 {j : Nat} {r : Row} (h : tb140_0[j]? = some r) : rowAt 140 r.1 = some r := row_mem 140 (by decide) (by rw [tab_140]; exact List.mem_of_getElem? h)
theorem r140_0 : rowAt 140 0 = some (r0 0 1 (.aload_n 0)) := ch140_0 (j := 0) rfl
theorem r140_1 : rowAt 140 1 = some (ra 1 2 (.lload_n 1) 1 0 0) := ch140_0 (j := 1) rfl
theorem r140_2 : rowAt 140 2 = some (ra 2 5 (.invokevirtual 55) 141 2 500) := ch140_0 (j := 2) rfl
theorem r140_5 : rowAt 140 5 = some (r0 5 6 (.aload_n 0)) := ch140_0 (j := 3) rfl
theorem r140_6 : rowAt 140 6 = some (ra 6 9 (.getfield 45) 4 7 1179) := ch140_0 (j := 4) rfl
theorem r140_9 : rowAt 140 9 = some (r0 9 10 (.lcmp)) := ch140_0 (j := 5) rfl
theorem r140_10 : rowAt 140 10 = some (ra 10 13 (.ifCond .ge 7) 17 0 0) := ch140_0 (j := 6) rfl
theorem r140_13 : rowAt 140 13 = some (13, 14, .iconst 1, 0, 0, 0, 1, 0) := ch140_0 (j := 7) rfl
theorem r140_14 : rowAt 140 14 = some (ra 14 17 (.goto 4) 18 0 0) := ch140_0 (j := 8) rfl
theorem r140_17 : rowAt 140 17 = some (r0 17 18 (.iconst 0)) := ch140_0 (j := 9) rfl
theorem r140_18 : rowAt 140 18 = some (r0 18 19 (.ireturn)) := ch140_0 (j := 10) rfl
theorem b140_0 {d : Nat} {q : Rs} {x0 : Nat} {x1 : Int64} {σ : St} {σ2 : St} {r : Int64} (h1 : x0 = 46 ∨ x0 = 47)
    (hy : Er d 141 (0, ent 141 [.ref x0, .long x1], [], σ) (.inl (some (.long r)), σ2, 0))
    (k : Er (d + 1) 140 (5, [some (.ref x0), some (.long x1), none], [.long r], σ2) q) :
    Er (d + 1) 140 (0, [some (.ref x0), some (.long x1), none], [], σ) q := Er.sT (c2 := (1, [some (.ref x0), some (.long x1), none], [.ref x0], σ)) r140_0 rfl rfl <| Er.sT (c2 := (2, [some (.ref x0), some (.long x1), none], [.long x1, .ref x0], σ)) r140_1 rfl rfl <| (Er.call (vs := [.ref x0, .long x1]) (rest := []) r140_2 rfl rfl (Nat.le_of_ble_eq_true rfl) (Nat.le_of_ble_eq_true rfl) (fun _ => ⟨_, _, rfl, h1⟩) hy k)
theorem b140_5 {d : Nat} {q : Rs} {x0 : Nat} {x1 : Int64} {s0 : Int64} {σ : St} (h1 : x0 = 46 ∨ x0 = 47)
    (kt : ¬ s0 < (efl x0 4) → Er (d + 1) 140 (17, [some (.ref x0), some (.long x1), none], [], σ) q)
    (kf : s0 < (efl x0 4) → Er (d + 1) 140 (13, [some (.ref x0), some (.long x1), none], [], σ) q) :
    Er (d + 1) 140 (5, [some (.ref x0), some (.long x1), none], [.long s0], σ) q := Er.sT (c2 := (6, [some (.ref x0), some (.long x1), none], [.ref x0, .long s0], σ)) r140_5 rfl rfl <| Er.st (P := (x0 = 46 ∨ x0 = 47)) (c2 := (9, [some (.ref x0), some (.long x1), none], [.long (efl x0 4), .long s0], σ)) r140_6 rfl rfl h1 <| Er.sT (c2 := (10, [some (.ref x0), some (.long x1), none], [.int (lg_cmp s0 (efl x0 4))], σ)) r140_9 rfl rfl <| Er.sT (c2 := (brn .ge (lg_cmp s0 (efl x0 4)) (0 : Int32) 17 13, [some (.ref x0), some (.long x1), none], [], σ)) r140_10 rfl rfl <| (bl_ge kt kf)
theorem b140_13 {d : Nat} {q : Rs} {x0 : Nat} {x1 : Int64} {σ : St} 
    (k : Er (d + 1) 140 (18, [some (.ref x0), some (.long x1), none], [.int (1 : Int32)], σ) q) :
    Er (d + 1) 140 (13, [some (.ref x0), some (.long x1), none], [], σ) q := Er.sT (c2 := (14, [some (.ref x0), some (.long x1), none], [.int (1 : Int32)], σ)) r140_13 rfl rfl <| Er.sT (c2 := (18, [some (.ref x0), some (.long x1), none], [.int (1 : Int32)], σ)) r140_14 rfl rfl <| k
theorem b140_17 {d : Nat} {q : Rs} {x0 : Nat} {x1 : Int64} {σ : St} 
    (k : Er (d + 1) 140 (18, [some (.ref x0), some (.long x1), none], [.int (0 : Int32)], σ) q) :
    Er (d + 1) 140 (17, [some (.ref x0), some (.long x1), none], [], σ) q := Er.sT (c2 := (18, [some (.ref x0), some (.long x1), none], [.int (0 : Int32)], σ)) r140_17 rfl rfl <| k
theorem b140_18 {d : Nat} {x0 : Nat} {x1 : Int64} {s0 : Int32} {σ : St} (hz : narrow .boolean (.int s0) = .int s0) :
    Er (d + 1) 140 (18, [some (.ref x0), some (.long x1), none], [.int s0], σ) (.inl (some (.int s0)), σ, 0) := (Er.ret r140_18 rfl ⟨_, _, rfl, rfl, hz, rfl⟩)
/-! NumberModels$Format.sizeOf(J)J -/
theorem tab_141 : tab 141 = tb141_0 := rfl
theorem ch141_0 {j : Nat} {r : Row} (h : tb141_0[j]? = some r) : rowAt 141 r.1 = some r := row_mem 141 (by decide) (by rw [tab_141]; exact List.mem_of_getElem? h)
theorem r141_0 : rowAt 141 0 = some (ra 0 1 (.lload_n 1) 1 0 0) := ch141_0 (j := 0) rfl
theorem r141_1 : rowAt 141 1 = some (r0 1 2 (.aload_n 0)) := ch141_0 (j := 1) rfl
theorem r141_2 : rowAt 141 2 = some (ra 2 5 (.getfield 48) 5 7 1178) := ch141_0 (j := 2) rfl
theorem r141_5 : rowAt 141 5 = some (5, 6, .lconst 1, 0, 0, 0, 0, 1) := ch141_0 (j := 3) rfl
theorem r141_6 : rowAt 141 6 = some (r0 6 7 (.lsub)) := ch141_0 (j := 4) rfl
theorem r141_7 : rowAt 141 7 = some (r0 7 8 (.land)) := ch141_0 (j := 5) rfl
theorem r141_8 : rowAt 141 8 = some (r0 8 9 (.lreturn)) := ch141_0 (j := 6) rfl
theorem b141_0 {d : Nat} {x0 : Nat} {x1 : Int64} {σ : St} (h1 : x0 = 46 ∨ x0 = 47) :
    Er (d + 1) 141 (0, [some (.ref x0), some (.long x1), none], [], σ) (.inl (some (.long (x1 &&& ((efl x0 5) - (1 : Int64))))), σ, 0) := Er.sT (c2 := (1, [some (.ref x0), some (.long x1), none], [.long x1], σ)) r141_0 rfl rfl <| Er.sT (c2 := (2, [some (.ref x0), some (.long x1), none], [.ref x0, .long x1], σ)) r141_1 rfl rfl <| Er.st (P := (x0 = 46 ∨ x0 = 47)) (c2 := (5, [some (.ref x0), some (.long x1), none], [.long (efl x0 5), .long x1], σ)) r141_2 rfl rfl h1 <| Er.sT (c2 := (6, [some (.ref x0), some (.long x1), none], [.long (1 : Int64), .long (efl x0 5), .long x1], σ)) r141_5 rfl rfl <| Er.sT (c2 := (7, [some (.ref x0), some (.long x1), none], [.long ((efl x0 5) - (1 : Int64)), .long x1], σ)) r141_6 rfl rfl <| Er.sT (c2 := (8, [some (.ref x0), some (.long x1), none], [.long (x1 &&& ((efl x0 5) - (1 : Int64)))], σ)) r141_7 rfl rfl <| (Er.ret r141_8 rfl ⟨_, rfl, rfl, rfl⟩)
/-! NumberModels$Format.significand(J)J -/
theorem tab_142 : tab 142 = tb142_0 := rfl
theorem ch142_0 {j : Nat} {r : Row} (h : tb142_0[j]? = some r) : rowAt 142 r.1 = some r := row_mem 142 (by decide) (by rw [tab_142]; exact List.mem_of_getElem? h)
theorem r142_0 : rowAt 142 0 = some (0, 1, .lconst 1, 0, 0, 0, 0, 1) := ch142_0 (j := 0) rfl
theorem r142_1 : rowAt 142 1 = some (r0 1 2 (.aload_n 0)) := ch142_0 (j := 1) rfl
theorem r142_2 : rowAt 142 2 = some (ra 2 5 (.getfield 31) 0 7 1180) := ch142_0 (j := 2) rfl
theorem r142_5 : rowAt 142 5 = some (r0 5 6 (.lshl)) := ch142_0 (j := 3) rfl
theorem r142_6 : rowAt 142 6 = some (ra 6 7 (.lstore_n 3) 3 0 0) := ch142_0 (j := 4) rfl
theorem r142_7 : rowAt 142 7 = some (ra 7 8 (.lload_n 1) 1 0 0) := ch142_0 (j := 5) rfl
theorem r142_8 : rowAt 142 8 = some (ra 8 9 (.lload_n 3) 3 0 0) := ch142_0 (j := 6) rfl
theorem r142_9 : rowAt 142 9 = some (9, 10, .lconst 1, 0, 0, 0, 0, 1) := ch142_0 (j := 7) rfl
theorem r142_10 : rowAt 142 10 = some (r0 10 11 (.lsub)) := ch142_0 (j := 8) rfl
theorem r142_11 : rowAt 142 11 = some (r0 11 12 (.land)) := ch142_0 (j := 9) rfl
theorem r142_12 : rowAt 142 12 = some (ra 12 14 (.lstore 5) 5 0 0) := ch142_0 (j := 10) rfl
theorem r142_14 : rowAt 142 14 = some (r0 14 15 (.aload_n 0)) := ch142_0 (j := 11) rfl
theorem r142_15 : rowAt 142 15 = some (ra 15 16 (.lload_n 1) 1 0 0) := ch142_0 (j := 12) rfl
theorem r142_16 : rowAt 142 16 = some (ra 16 19 (.invokevirtual 59) 143 2 509) := ch142_0 (j := 13) rfl
theorem r142_19 : rowAt 142 19 = some (ra 19 22 (.ifCond .ne 8) 27 0 0) := ch142_0 (j := 14) rfl
theorem r142_22 : rowAt 142 22 = some (ra 22 24 (.lload 5) 5 0 0) := ch142_0 (j := 15) rfl
theorem r142_24 : rowAt 142 24 = some (ra 24 27 (.goto 7) 31 0 0) := ch142_0 (j := 16) rfl
theorem r142_27 : rowAt 142 27 = some (ra 27 28 (.lload_n 3) 3 0 0) := ch142_0 (j := 17) rfl
theorem r142_28 : rowAt 142 28 = some (ra 28 30 (.lload 5) 5 0 0) := ch142_0 (j := 18) rfl
theorem r142_30 : rowAt 142 30 = some (r0 30 31 (.ladd)) := ch142_0 (j := 19) rfl
theorem r142_31 : rowAt 142 31 = some (r0 31 32 (.lreturn)) := ch142_0 (j := 20) rfl
theorem b142_0 {d : Nat} {q : Rs} {x0 : Nat} {x1 : Int64} {σ : St} {σ2 : St} {r : Int32} (h1 : x0 = 46 ∨ x0 = 47)
    (hy : Er d 143 (0, ent 143 [.ref x0, .long x1], [], σ) (.inl (some (.int r)), σ2, 0))
    (k : Er (d + 1) 142 (19, [some (.ref x0), some (.long x1), none, some (.long ((1 : Int64) <<< ((efi x0 0).toInt64 &&& 63))), none, some (.long (x1 &&& (((1 : Int64) <<< ((efi x0 0).toInt64 &&& 63)) - (1 : Int64)))), none], [.int r], σ2) q) :
    Er (d + 1) 142 (0, [some (.ref x0), some (.long x1), none, none, none, none, none], [], σ) q := Er.sT (c2 := (1, [some (.ref x0), some (.long x1), none, none, none, none, none], [.long (1 : Int64)], σ)) r142_0 rfl rfl <| Er.sT (c2 := (2, [some (.ref x0), some (.long x1), none, none, none, none, none], [.ref x0, .long (1 : Int64)], σ)) r142_1 rfl rfl <| Er.st (P := (x0 = 46 ∨ x0 = 47)) (c2 := (5, [some (.ref x0), some (.long x1), none, none, none, none, none], [.int (efi x0 0), .long (1 : Int64)], σ)) r142_2 rfl rfl h1 <| Er.sT (c2 := (6, [some (.ref x0), some (.long x1), none, none, none, none, none], [.long ((1 : Int64) <<< ((efi x0 0).toInt64 &&& 63))], σ)) r142_5 rfl rfl <| Er.sT (c2 := (7, [some (.ref x0), some (.long x1), none, some (.long ((1 : Int64) <<< ((efi x0 0).toInt64 &&& 63))), none, none, none], [], σ)) r142_6 rfl rfl <| Er.sT (c2 := (8, [some (.ref x0), some (.long x1), none, some (.long ((1 : Int64) <<< ((efi x0 0).toInt64 &&& 63))), none, none, none], [.long x1], σ)) r142_7 rfl rfl <| Er.sT (c2 := (9, [some (.ref x0), some (.long x1), none, some (.long ((1 : Int64) <<< ((efi x0 0).toInt64 &&& 63))), none, none, none], [.long ((1 : Int64) <<< ((efi x0 0).toInt64 &&& 63)), .long x1], σ)) r142_8 rfl rfl <| Er.sT (c2 := (10, [some (.ref x0), some (.long x1), none, some (.long ((1 : Int64) <<< ((efi x0 0).toInt64 &&& 63))), none, none, none], [.long (1 : Int64), .long ((1 : Int64) <<< ((efi x0 0).toInt64 &&& 63)), .long x1], σ)) r142_9 rfl rfl <| Er.sT (c2 := (11, [some (.ref x0), some (.long x1), none, some (.long ((1 : Int64) <<< ((efi x0 0).toInt64 &&& 63))), none, none, none], [.long (((1 : Int64) <<< ((efi x0 0).toInt64 &&& 63)) - (1 : Int64)), .long x1], σ)) r142_10 rfl rfl <| Er.sT (c2 := (12, [some (.ref x0), some (.long x1), none, some (.long ((1 : Int64) <<< ((efi x0 0).toInt64 &&& 63))), none, none, none], [.long (x1 &&& (((1 : Int64) <<< ((efi x0 0).toInt64 &&& 63)) - (1 : Int64)))], σ)) r142_11 rfl rfl <| Er.sT (c2 := (14, [some (.ref x0), some (.long x1), none, some (.long ((1 : Int64) <<< ((efi x0 0).toInt64 &&& 63))), none, some (.long (x1 &&& (((1 : Int64) <<< ((efi x0 0).toInt64 &&& 63)) - (1 : Int64)))), none], [], σ)) r142_12 rfl rfl <| Er.sT (c2 := (15, [some (.ref x0), some (.long x1), none, some (.long ((1 : Int64) <<< ((efi x0 0).toInt64 &&& 63))), none, some (.long (x1 &&& (((1 : Int64) <<< ((efi x0 0).toInt64 &&& 63)) - (1 : Int64)))), none], [.ref x0], σ)) r142_14 rfl rfl <| Er.sT (c2 := (16, [some (.ref x0), some (.long x1), none, some (.long ((1 : Int64) <<< ((efi x0 0).toInt64 &&& 63))), none, some (.long (x1 &&& (((1 : Int64) <<< ((efi x0 0).toInt64 &&& 63)) - (1 : Int64)))), none], [.long x1, .ref x0], σ)) r142_15 rfl rfl <| (Er.call (vs := [.ref x0, .long x1]) (rest := []) r142_16 rfl rfl (Nat.le_of_ble_eq_true rfl) (Nat.le_of_ble_eq_true rfl) (fun _ => ⟨_, _, rfl, h1⟩) hy k)
theorem b142_19 {d : Nat} {q : Rs} {x0 : Nat} {x1 : Int64} {x3 : Int64} {x5 : Int64} {s0 : Int32} {σ : St} 
    (kt : ¬ s0 = (0 : Int32) → Er (d + 1) 142 (27, [some (.ref x0), some (.long x1), none, some (.long x3), none, some (.long x5), none], [], σ) q)
    (kf : s0 = (0 : Int32) → Er (d + 1) 142 (22, [some (.ref x0), some (.long x1), none, some (.long x3), none, some (.long x5), none], [], σ) q) :
    Er (d + 1) 142 (19, [some (.ref x0), some (.long x1), none, some (.long x3), none, some (.long x5), none], [.int s0], σ) q := Er.sT (c2 := (brn .ne s0 (0 : Int32) 27 22, [some (.ref x0), some (.long x1), none, some (.long x3), none, some (.long x5), none], [], σ)) r142_19 rfl rfl <| (br_ne kt kf)
theorem b142_22 {d : Nat} {q : Rs} {x0 : Nat} {x1 : Int64} {x3 : Int64} {x5 : Int64} {σ : St} 
    (k : Er (d + 1) 142 (31, [some (.ref x0), some (.long x1), none, some (.long x3), none, some (.long x5), none], [.long x5], σ) q) :
    Er (d + 1) 142 (22, [some (.ref x0), some (.long x1), none, some (.long x3), none, some (.long x5), none], [], σ) q := Er.sT (c2 := (24, [some (.ref x0), some (.long x1), none, some (.long x3), none, some (.long x5), none], [.long x5], σ)) r142_22 rfl rfl <| Er.sT (c2 := (31, [some (.ref x0), some (.long x1), none, some (.long x3), none, some (.long x5), none], [.long x5], σ)) r142_24 rfl rfl <| k
theorem b142_27 {d : Nat} {q : Rs} {x0 : Nat} {x1 : Int64} {x3 : Int64} {x5 : Int64} {σ : St} 
    (k : Er (d + 1) 142 (31, [some (.ref x0), some (.long x1), none, some (.long x3), none, some (.long x5), none], [.long (x3 + x5)], σ) q) :
    Er (d + 1) 142 (27, [some (.ref x0), some (.long x1), none, some (.long x3), none, some (.long x5), none], [], σ) q := Er.sT (c2 := (28, [some (.ref x0), some (.long x1), none, some (.long x3), none, some (.long x5), none], [.long x3], σ)) r142_27 rfl rfl <| Er.sT (c2 := (30, [some (.ref x0), some (.long x1), none, some (.long x3), none, some (.long x5), none], [.long x5, .long x3], σ)) r142_28 rfl rfl <| Er.sT (c2 := (31, [some (.ref x0), some (.long x1), none, some (.long x3), none, some (.long x5), none], [.long (x3 + x5)], σ)) r142_30 rfl rfl <| k
theorem b142_31 {d : Nat} {x0 : Nat} {x1 : Int64} {x3 : Int64} {x5 : Int64} {s0 : Int64} {σ : St}  :
    Er (d + 1) 142 (31, [some (.ref x0), some (.long x1), none, some (.long x3), none, some (.long x5), none], [.long s0], σ) (.inl (some (.long s0)), σ, 0) := (Er.ret r142_31 rfl ⟨_, rfl, rfl, rfl⟩)
/-! NumberModels$Format.exponent(J)I -/
theorem tab_143 : tab 143 = tb143_0 := rfl
theorem ch143_0 {j : Nat} {r : Row} (h : tb143_0[j]? = some r) : rowAt 143 r.1 = some r := row_mem 143 (by decide) (by rw [tab_143]; exact List.mem_of_getElem? h)
theorem r143_0 : rowAt 143 0 = some (r0 0 1 (.aload_n 0)) := ch143_0 (j := 0) rfl
theorem r143_1 : rowAt 143 1 = some (ra 1 2 (.lload_n 1) 1 0 0) := ch143_0 (j := 1) rfl
theorem r143_2 : rowAt 143 2 = some (ra 2 5 (.invokevirtual 55) 141 2 500) := ch143_0 (j := 2) rfl
theorem r143_5 : rowAt 143 5 = some (r0 5 6 (.aload_n 0)) := ch143_0 (j := 3) rfl
theorem r143_6 : rowAt 143 6 = some (ra 6 9 (.getfield 31) 0 7 1180) := ch143_0 (j := 4) rfl
theorem r143_9 : rowAt 143 9 = some (r0 9 10 (.lushr)) := ch143_0 (j := 5) rfl
theorem r143_10 : rowAt 143 10 = some (r0 10 11 (.l2i)) := ch143_0 (j := 6) rfl
theorem r143_11 : rowAt 143 11 = some (r0 11 12 (.ireturn)) := ch143_0 (j := 7) rfl
theorem b143_0 {d : Nat} {q : Rs} {x0 : Nat} {x1 : Int64} {σ : St} {σ2 : St} {r : Int64} (h1 : x0 = 46 ∨ x0 = 47)
    (hy : Er d 141 (0, ent 141 [.ref x0, .long x1], [], σ) (.inl (some (.long r)), σ2, 0))
    (k : Er (d + 1) 143 (5, [some (.ref x0), some (.long x1), none], [.long r], σ2) q) :
    Er (d + 1) 143 (0, [some (.ref x0), some (.long x1), none], [], σ) q := Er.sT (c2 := (1, [some (.ref x0), some (.long x1), none], [.ref x0], σ)) r143_0 rfl rfl <| Er.sT (c2 := (2, [some (.ref x0), some (.long x1), none], [.long x1, .ref x0], σ)) r143_1 rfl rfl <| (Er.call (vs := [.ref x0, .long x1]) (rest := []) r143_2 rfl rfl (Nat.le_of_ble_eq_true rfl) (Nat.le_of_ble_eq_true rfl) (fun _ => ⟨_, _, rfl, h1⟩) hy k)
theorem b143_5 {d : Nat} {x0 : Nat} {x1 : Int64} {s0 : Int64} {σ : St} (h1 : x0 = 46 ∨ x0 = 47) :
    Er (d + 1) 143 (5, [some (.ref x0), some (.long x1), none], [.long s0], σ) (.inl (some (.int (((s0.toUInt64 >>> ((efi x0 0).toInt64.toUInt64 &&& Int64.toUInt64 63)).toInt64).toInt32))), σ, 0) := Er.sT (c2 := (6, [some (.ref x0), some (.long x1), none], [.ref x0, .long s0], σ)) r143_5 rfl rfl <| Er.st (P := (x0 = 46 ∨ x0 = 47)) (c2 := (9, [some (.ref x0), some (.long x1), none], [.int (efi x0 0), .long s0], σ)) r143_6 rfl rfl h1 <| Er.sT (c2 := (10, [some (.ref x0), some (.long x1), none], [.long ((s0.toUInt64 >>> ((efi x0 0).toInt64.toUInt64 &&& Int64.toUInt64 63)).toInt64)], σ)) r143_9 rfl rfl <| Er.sT (c2 := (11, [some (.ref x0), some (.long x1), none], [.int (((s0.toUInt64 >>> ((efi x0 0).toInt64.toUInt64 &&& Int64.toUInt64 63)).toInt64).toInt32)], σ)) r143_10 rfl rfl <| (Er.ret r143_11 rfl ⟨_, _, rfl, rfl, rfl, rfl⟩)
/-! NumberModels$Format.sideOf(J)I -/
theorem tab_144 : tab 144 = tb144_0 := rfl
theorem ch144_0 {j : Nat} {r : Row} (h : tb144_0[j]? = some r) : rowAt 144 r.1 = some r := row_mem 144 (by decide) (by rw [tab_144]; exact List.mem_of_getElem? h)
theorem r144_0 : rowAt 144 0 = some (r0 0 1 (.aload_n 0)) := ch144_0 (j := 0) rfl
theorem r144_1 : rowAt 144 1 = some (ra 1 2 (.lload_n 1) 1 0 0) := ch144_0 (j := 1) rfl
theorem r144_2 : rowAt 144 2 = some (ra 2 5 (.invokevirtual 51) 145 2 518) := ch144_0 (j := 2) rfl
theorem r144_5 : rowAt 144 5 = some (ra 5 8 (.ifCond .eq 7) 12 0 0) := ch144_0 (j := 3) rfl
theorem r144_8 : rowAt 144 8 = some (8, 9, .iconst (-1), 0, 0, 0, (-1), 0) := ch144_0 (j := 4) rfl
theorem r144_9 : rowAt 144 9 = some (ra 9 12 (.goto 4) 13 0 0) := ch144_0 (j := 5) rfl
theorem r144_12 : rowAt 144 12 = some (12, 13, .iconst 1, 0, 0, 0, 1, 0) := ch144_0 (j := 6) rfl
theorem r144_13 : rowAt 144 13 = some (r0 13 14 (.ireturn)) := ch144_0 (j := 7) rfl
theorem b144_0 {d : Nat} {q : Rs} {x0 : Nat} {x1 : Int64} {σ : St} {σ2 : St} {r : Int32} (h1 : x0 = 46 ∨ x0 = 47)
    (hy : Er d 145 (0, ent 145 [.ref x0, .long x1], [], σ) (.inl (some (.int r)), σ2, 0))
    (k : Er (d + 1) 144 (5, [some (.ref x0), some (.long x1), none], [.int r], σ2) q) :
    Er (d + 1) 144 (0, [some (.ref x0), some (.long x1), none], [], σ) q := Er.sT (c2 := (1, [some (.ref x0), some (.long x1), none], [.ref x0], σ)) r144_0 rfl rfl <| Er.sT (c2 := (2, [some (.ref x0), some (.long x1), none], [.long x1, .ref x0], σ)) r144_1 rfl rfl <| (Er.call (vs := [.ref x0, .long x1]) (rest := []) r144_2 rfl rfl (Nat.le_of_ble_eq_true rfl) (Nat.le_of_ble_eq_true rfl) (fun _ => ⟨_, _, rfl, h1⟩) hy k)
theorem b144_5 {d : Nat} {q : Rs} {x0 : Nat} {x1 : Int64} {s0 : Int32} {σ : St} 
    (kt : s0 = (0 : Int32) → Er (d + 1) 144 (12, [some (.ref x0), some (.long x1), none], [], σ) q)
    (kf : ¬ s0 = (0 : Int32) → Er (d + 1) 144 (8, [some (.ref x0), some (.long x1), none], [], σ) q) :
    Er (d + 1) 144 (5, [some (.ref x0), some (.long x1), none], [.int s0], σ) q := Er.sT (c2 := (brn .eq s0 (0 : Int32) 12 8, [some (.ref x0), some (.long x1), none], [], σ)) r144_5 rfl rfl <| (br_eq kt kf)
theorem b144_8 {d : Nat} {q : Rs} {x0 : Nat} {x1 : Int64} {σ : St} 
    (k : Er (d + 1) 144 (13, [some (.ref x0), some (.long x1), none], [.int (-1 : Int32)], σ) q) :
    Er (d + 1) 144 (8, [some (.ref x0), some (.long x1), none], [], σ) q := Er.sT (c2 := (9, [some (.ref x0), some (.long x1), none], [.int (-1 : Int32)], σ)) r144_8 rfl rfl <| Er.sT (c2 := (13, [some (.ref x0), some (.long x1), none], [.int (-1 : Int32)], σ)) r144_9 rfl rfl <| k
theorem b144_12 {d : Nat} {q : Rs} {x0 : Nat} {x1 : Int64} {σ : St} 
    (k : Er (d + 1) 144 (13, [some (.ref x0), some (.long x1), none], [.int (1 : Int32)], σ) q) :
    Er (d + 1) 144 (12, [some (.ref x0), some (.long x1), none], [], σ) q := Er.sT (c2 := (13, [some (.ref x0), some (.long x1), none], [.int (1 : Int32)], σ)) r144_12 rfl rfl <| k
theorem b144_13 {d : Nat} {x0 : Nat} {x1 : Int64} {s0 : Int32} {σ : St}  :
    Er (d + 1) 144 (13, [some (.ref x0), some (.long x1), none], [.int s0], σ) (.inl (some (.int s0)), σ, 0) := (Er.ret r144_13 rfl ⟨_, _, rfl, rfl, rfl, rfl⟩)
/-! NumberModels$Format.hasSign(J)Z -/
theorem tab_145 : tab 145 = tb145_0 := rfl
theorem ch145_0 {j : Nat} {r : Row} (h : tb145_0[j]? = some r) : rowAt 145 r.1 = some r := row_mem 145 (by decide) (by rw [tab_145]; exact List.mem_of_getElem? h)
theorem r145_0 : rowAt 145 0 = some (ra 0 1 (.lload_n 1) 1 0 0) := ch145_0 (j := 0) rfl
theorem r145_1 : rowAt 145 1 = some (r0 1 2 (.aload_n 0)) := ch145_0 (j := 1) rfl
theorem r145_2 : rowAt 145 2 = some (ra 2 5 (.getfield 48) 5 7 1178) := ch145_0 (j := 2) rfl
theorem r145_5 : rowAt 145 5 = some (r0 5 6 (.land)) := ch145_0 (j := 3) rfl
theorem r145_6 : rowAt 145 6 = some (r0 6 7 (.lconst 0)) := ch145_0 (j := 4) rfl
theorem r145_7 : rowAt 145 7 = some (r0 7 8 (.lcmp)) := ch145_0 (j := 5) rfl
theorem r145_8 : rowAt 145 8 = some (ra 8 11 (.ifCond .eq 7) 15 0 0) := ch145_0 (j := 6) rfl
theorem r145_11 : rowAt 145 11 = some (11, 12, .iconst 1, 0, 0, 0, 1, 0) := ch145_0 (j := 7) rfl
theorem r145_12 : rowAt 145 12 = some (ra 12 15 (.goto 4) 16 0 0) := ch145_0 (j := 8) rfl
theorem r145_15 : rowAt 145 15 = some (r0 15 16 (.iconst 0)) := ch145_0 (j := 9) rfl
theorem r145_16 : rowAt 145 16 = some (r0 16 17 (.ireturn)) := ch145_0 (j := 10) rfl
theorem b145_0 {d : Nat} {q : Rs} {x0 : Nat} {x1 : Int64} {σ : St} (h1 : x0 = 46 ∨ x0 = 47)
    (kt : (x1 &&& (efl x0 5)) = (0 : Int64) → Er (d + 1) 145 (15, [some (.ref x0), some (.long x1), none], [], σ) q)
    (kf : ¬ (x1 &&& (efl x0 5)) = (0 : Int64) → Er (d + 1) 145 (11, [some (.ref x0), some (.long x1), none], [], σ) q) :
    Er (d + 1) 145 (0, [some (.ref x0), some (.long x1), none], [], σ) q := Er.sT (c2 := (1, [some (.ref x0), some (.long x1), none], [.long x1], σ)) r145_0 rfl rfl <| Er.sT (c2 := (2, [some (.ref x0), some (.long x1), none], [.ref x0, .long x1], σ)) r145_1 rfl rfl <| Er.st (P := (x0 = 46 ∨ x0 = 47)) (c2 := (5, [some (.ref x0), some (.long x1), none], [.long (efl x0 5), .long x1], σ)) r145_2 rfl rfl h1 <| Er.sT (c2 := (6, [some (.ref x0), some (.long x1), none], [.long (x1 &&& (efl x0 5))], σ)) r145_5 rfl rfl <| Er.sT (c2 := (7, [some (.ref x0), some (.long x1), none], [.long (0 : Int64), .long (x1 &&& (efl x0 5))], σ)) r145_6 rfl rfl <| Er.sT (c2 := (8, [some (.ref x0), some (.long x1), none], [.int (lg_cmp (x1 &&& (efl x0 5)) (0 : Int64))], σ)) r145_7 rfl rfl <| Er.sT (c2 := (brn .eq (lg_cmp (x1 &&& (efl x0 5)) (0 : Int64)) (0 : Int32) 15 11, [some (.ref x0), some (.long x1), none], [], σ)) r145_8 rfl rfl <| (bl_eq kt kf)
theorem b145_11 {d : Nat} {q : Rs} {x0 : Nat} {x1 : Int64} {σ : St} 
    (k : Er (d + 1) 145 (16, [some (.ref x0), some (.long x1), none], [.int (1 : Int32)], σ) q) :
    Er (d + 1) 145 (11, [some (.ref x0), some (.long x1), none], [], σ) q := Er.sT (c2 := (12, [some (.ref x0), some (.long x1), none], [.int (1 : Int32)], σ)) r145_11 rfl rfl <| Er.sT (c2 := (16, [some (.ref x0), some (.long x1), none], [.int (1 : Int32)], σ)) r145_12 rfl rfl <| k
theorem b145_15 {d : Nat} {q : Rs} {x0 : Nat} {x1 : Int64} {σ : St} 
    (k : Er (d + 1) 145 (16, [some (.ref x0), some (.long x1), none], [.int (0 : Int32)], σ) q) :
    Er (d + 1) 145 (15, [some (.ref x0), some (.long x1), none], [], σ) q := Er.sT (c2 := (16, [some (.ref x0), some (.long x1), none], [.int (0 : Int32)], σ)) r145_15 rfl rfl <| k
theorem b145_16 {d : Nat} {x0 : Nat} {x1 : Int64} {s0 : Int32} {σ : St} (hz : narrow .boolean (.int s0) = .int s0) :
    Er (d + 1) 145 (16, [some (.ref x0), some (.long x1), none], [.int s0], σ) (.inl (some (.int s0)), σ, 0) := (Er.ret r145_16 rfl ⟨_, _, rfl, rfl, hz, rfl⟩)
/-! NumberModels$Format.scale(J)I -/
theorem tab_146 : tab 146 = tb146_0 := rfl
theorem ch146_0 {j : Nat} {r : Row} (h : tb146_0[j]? = some r) : rowAt 146 r.1 = some r := row_mem 146 (by decide) (by rw [tab_146]; exact List.mem_of_getElem? h)
theorem r146_0 : rowAt 146 0 = some (r0 0 1 (.aload_n 0)) := ch146_0 (j := 0) rfl
theorem r146_1 : rowAt 146 1 = some (ra 1 2 (.lload_n 1) 1 0 0) := ch146_0 (j := 1) rfl
theorem r146_2 : rowAt 146 2 = some (ra 2 5 (.invokevirtual 59) 143 2 509) := ch146_0 (j := 2) rfl
theorem r146_5 : rowAt 146 5 = some (5, 6, .iconst 1, 0, 0, 0, 1, 0) := ch146_0 (j := 3) rfl
theorem r146_6 : rowAt 146 6 = some (ra 6 9 (.invokestatic 63) 991 2 526) := ch146_0 (j := 4) rfl
theorem r146_9 : rowAt 146 9 = some (9, 10, .iconst 1, 0, 0, 0, 1, 0) := ch146_0 (j := 5) rfl
theorem r146_10 : rowAt 146 10 = some (r0 10 11 (.isub)) := ch146_0 (j := 6) rfl
theorem r146_11 : rowAt 146 11 = some (r0 11 12 (.aload_n 0)) := ch146_0 (j := 7) rfl
theorem r146_12 : rowAt 146 12 = some (ra 12 15 (.getfield 38) 2 7 1181) := ch146_0 (j := 8) rfl
theorem r146_15 : rowAt 146 15 = some (r0 15 16 (.iadd)) := ch146_0 (j := 9) rfl
theorem r146_16 : rowAt 146 16 = some (r0 16 17 (.ireturn)) := ch146_0 (j := 10) rfl
theorem b146_0 {d : Nat} {q : Rs} {x0 : Nat} {x1 : Int64} {σ : St} {σ2 : St} {r : Int32} (h1 : x0 = 46 ∨ x0 = 47)
    (hy : Er d 143 (0, ent 143 [.ref x0, .long x1], [], σ) (.inl (some (.int r)), σ2, 0))
    (k : Er (d + 1) 146 (5, [some (.ref x0), some (.long x1), none], [.int r], σ2) q) :
    Er (d + 1) 146 (0, [some (.ref x0), some (.long x1), none], [], σ) q := Er.sT (c2 := (1, [some (.ref x0), some (.long x1), none], [.ref x0], σ)) r146_0 rfl rfl <| Er.sT (c2 := (2, [some (.ref x0), some (.long x1), none], [.long x1, .ref x0], σ)) r146_1 rfl rfl <| (Er.call (vs := [.ref x0, .long x1]) (rest := []) r146_2 rfl rfl (Nat.le_of_ble_eq_true rfl) (Nat.le_of_ble_eq_true rfl) (fun _ => ⟨_, _, rfl, h1⟩) hy k)
theorem b146_5 {d : Nat} {x0 : Nat} {x1 : Int64} {s0 : Int32} {σ : St} (h1 : x0 = 46 ∨ x0 = 47) :
    Er (d + 1) 146 (5, [some (.ref x0), some (.long x1), none], [.int s0], σ) (.inl (some (.int (((if s0 < (1 : Int32) then (1 : Int32) else s0) - (1 : Int32)) + (efi x0 2)))), σ, 0) := Er.sT (c2 := (6, [some (.ref x0), some (.long x1), none], [.int (1 : Int32), .int s0], σ)) r146_5 rfl rfl <| Er.st (P := ((([] : List Value).map fun v => v.category).sum ≤ 8)) (c2 := (9, [some (.ref x0), some (.long x1), none], [.int (if s0 < (1 : Int32) then (1 : Int32) else s0)], σ)) r146_6 rfl rfl (Nat.le_of_ble_eq_true rfl) <| Er.sT (c2 := (10, [some (.ref x0), some (.long x1), none], [.int (1 : Int32), .int (if s0 < (1 : Int32) then (1 : Int32) else s0)], σ)) r146_9 rfl rfl <| Er.sT (c2 := (11, [some (.ref x0), some (.long x1), none], [.int ((if s0 < (1 : Int32) then (1 : Int32) else s0) - (1 : Int32))], σ)) r146_10 rfl rfl <| Er.sT (c2 := (12, [some (.ref x0), some (.long x1), none], [.ref x0, .int ((if s0 < (1 : Int32) then (1 : Int32) else s0) - (1 : Int32))], σ)) r146_11 rfl rfl <| Er.st (P := (x0 = 46 ∨ x0 = 47)) (c2 := (15, [some (.ref x0), some (.long x1), none], [.int (efi x0 2), .int ((if s0 < (1 : Int32) then (1 : Int32) else s0) - (1 : Int32))], σ)) r146_12 rfl rfl h1 <| Er.sT (c2 := (16, [some (.ref x0), some (.long x1), none], [.int (((if s0 < (1 : Int32) then (1 : Int32) else s0) - (1 : Int32)) + (efi x0 2))], σ)) r146_15 rfl rfl <| (Er.ret r146_16 rfl ⟨_, _, rfl, rfl, rfl, rfl⟩)
/-! NumberModels$Format.isNoNumber(J)Z -/
theorem tab_147 : tab 147 = tb147_0 := rfl
theorem ch147_0 {j : Nat} {r : Row} (h : tb147_0[j]? = some r) : rowAt 147 r.1 = some r := row_mem 147 (by decide) (by rw [tab_147]; exact List.mem_of_getElem? h)
theorem r147_0 : rowAt 147 0 = some (r0 0 1 (.aload_n 0)) := ch147_0 (j := 0) rfl
theorem r147_1 : rowAt 147 1 = some (ra 1 2 (.lload_n 1) 1 0 0) := ch147_0 (j := 1) rfl
theorem r147_2 : rowAt 147 2 = some (ra 2 5 (.invokevirtual 55) 141 2 500) := ch147_0 (j := 2) rfl
theorem r147_5 : rowAt 147 5 = some (r0 5 6 (.aload_n 0)) := ch147_0 (j := 3) rfl
theorem r147_6 : rowAt 147 6 = some (ra 6 9 (.getfield 45) 4 7 1179) := ch147_0 (j := 4) rfl
theorem r147_9 : rowAt 147 9 = some (r0 9 10 (.lcmp)) := ch147_0 (j := 5) rfl
theorem r147_10 : rowAt 147 10 = some (ra 10 13 (.ifCond .le 7) 17 0 0) := ch147_0 (j := 6) rfl
theorem r147_13 : rowAt 147 13 = some (13, 14, .iconst 1, 0, 0, 0, 1, 0) := ch147_0 (j := 7) rfl
theorem r147_14 : rowAt 147 14 = some (ra 14 17 (.goto 4) 18 0 0) := ch147_0 (j := 8) rfl
theorem r147_17 : rowAt 147 17 = some (r0 17 18 (.iconst 0)) := ch147_0 (j := 9) rfl
theorem r147_18 : rowAt 147 18 = some (r0 18 19 (.ireturn)) := ch147_0 (j := 10) rfl
theorem b147_0 {d : Nat} {q : Rs} {x0 : Nat} {x1 : Int64} {σ : St} {σ2 : St} {r : Int64} (h1 : x0 = 46 ∨ x0 = 47)
    (hy : Er d 141 (0, ent 141 [.ref x0, .long x1], [], σ) (.inl (some (.long r)), σ2, 0))
    (k : Er (d + 1) 147 (5, [some (.ref x0), some (.long x1), none], [.long r], σ2) q) :
    Er (d + 1) 147 (0, [some (.ref x0), some (.long x1), none], [], σ) q := Er.sT (c2 := (1, [some (.ref x0), some (.long x1), none], [.ref x0], σ)) r147_0 rfl rfl <| Er.sT (c2 := (2, [some (.ref x0), some (.long x1), none], [.long x1, .ref x0], σ)) r147_1 rfl rfl <| (Er.call (vs := [.ref x0, .long x1]) (rest := []) r147_2 rfl rfl (Nat.le_of_ble_eq_true rfl) (Nat.le_of_ble_eq_true rfl) (fun _ => ⟨_, _, rfl, h1⟩) hy k)
theorem b147_5 {d : Nat} {q : Rs} {x0 : Nat} {x1 : Int64} {s0 : Int64} {σ : St} (h1 : x0 = 46 ∨ x0 = 47)
    (kt : ¬ (efl x0 4) < s0 → Er (d + 1) 147 (17, [some (.ref x0), some (.long x1), none], [], σ) q)
    (kf : (efl x0 4) < s0 → Er (d + 1) 147 (13, [some (.ref x0), some (.long x1), none], [], σ) q) :
    Er (d + 1) 147 (5, [some (.ref x0), some (.long x1), none], [.long s0], σ) q := Er.sT (c2 := (6, [some (.ref x0), some (.long x1), none], [.ref x0, .long s0], σ)) r147_5 rfl rfl <| Er.st (P := (x0 = 46 ∨ x0 = 47)) (c2 := (9, [some (.ref x0), some (.long x1), none], [.long (efl x0 4), .long s0], σ)) r147_6 rfl rfl h1 <| Er.sT (c2 := (10, [some (.ref x0), some (.long x1), none], [.int (lg_cmp s0 (efl x0 4))], σ)) r147_9 rfl rfl <| Er.sT (c2 := (brn .le (lg_cmp s0 (efl x0 4)) (0 : Int32) 17 13, [some (.ref x0), some (.long x1), none], [], σ)) r147_10 rfl rfl <| (bl_le kt kf)
theorem b147_13 {d : Nat} {q : Rs} {x0 : Nat} {x1 : Int64} {σ : St} 
    (k : Er (d + 1) 147 (18, [some (.ref x0), some (.long x1), none], [.int (1 : Int32)], σ) q) :
    Er (d + 1) 147 (13, [some (.ref x0), some (.long x1), none], [], σ) q := Er.sT (c2 := (14, [some (.ref x0), some (.long x1), none], [.int (1 : Int32)], σ)) r147_13 rfl rfl <| Er.sT (c2 := (18, [some (.ref x0), some (.long x1), none], [.int (1 : Int32)], σ)) r147_14 rfl rfl <| k
theorem b147_17 {d : Nat} {q : Rs} {x0 : Nat} {x1 : Int64} {σ : St} 
    (k : Er (d + 1) 147 (18, [some (.ref x0), some (.long x1), none], [.int (0 : Int32)], σ) q) :
    Er (d + 1) 147 (17, [some (.ref x0), some (.long x1), none], [], σ) q := Er.sT (c2 := (18, [some (.ref x0), some (.long x1), none], [.int (0 : Int32)], σ)) r147_17 rfl rfl <| k
theorem b147_18 {d : Nat} {x0 : Nat} {x1 : Int64} {s0 : Int32} {σ : St} (hz : narrow .boolean (.int s0) = .int s0) :
    Er (d + 1) 147 (18, [some (.ref x0), some (.long x1), none], [.int s0], σ) (.inl (some (.int s0)), σ, 0) := (Er.ret r147_18 rfl ⟨_, _, rfl, rfl, hz, rfl⟩)
/-! NumberModels$Format.encode(ZJIZI)J -/
theorem tab_148 : tab 148 = tb148_0 ++ tb148_1 := rfl
theorem ch148_0 {j : Nat} {r : Row} (h : tb148_0[j]? = some r) : rowAt 148 r.1 = some r := row_mem 148 (by decide) (by rw [tab_148]; exact (List.mem_append_left _ (List.mem_of_getElem? h)))
theorem ch148_1 {j : Nat} {r : Row} (h : tb148_1[j]? = some r) : rowAt 148 r.1 = some r := row_mem 148 (by decide) (by rw [tab_148]; exact (List.mem_append_right _ (List.mem_of_getElem? h)))
theorem r148_0 : rowAt 148 0 = some (ra 0 1 (.lload_n 2) 2 0 0) := ch148_0 (j := 0) rfl
theorem r148_1 : rowAt 148 1 = some (r0 1 2 (.lconst 0)) := ch148_0 (j := 1) rfl
theorem r148_2 : rowAt 148 2 = some (r0 2 3 (.lcmp)) := ch148_0 (j := 2) rfl
theorem r148_3 : rowAt 148 3 = some (ra 3 6 (.ifCond .ne 10) 13 0 0) := ch148_0 (j := 3) rfl
theorem r148_6 : rowAt 148 6 = some (r0 6 7 (.aload_n 0)) := ch148_0 (j := 4) rfl
theorem r148_7 : rowAt 148 7 = some (ra 7 8 (.iload_n 1) 1 0 0) := ch148_0 (j := 5) rfl
theorem r148_8 : rowAt 148 8 = some (r0 8 9 (.lconst 0)) := ch148_0 (j := 6) rfl
theorem r148_9 : rowAt 148 9 = some (ra 9 12 (.invokevirtual 69) 149 3 756) := ch148_0 (j := 7) rfl
theorem r148_12 : rowAt 148 12 = some (r0 12 13 (.lreturn)) := ch148_0 (j := 8) rfl
theorem r148_13 : rowAt 148 13 = some (ra 13 14 (.lload_n 2) 2 0 0) := ch148_0 (j := 9) rfl
theorem r148_14 : rowAt 148 14 = some (14, 17, .invokestatic 73, 44, 1, 760, 1, 0) := ch148_0 (j := 10) rfl
theorem r148_17 : rowAt 148 17 = some (ra 17 19 (.iload 4) 4 0 0) := ch148_0 (j := 11) rfl
theorem r148_19 : rowAt 148 19 = some (r0 19 20 (.iadd)) := ch148_0 (j := 12) rfl
theorem r148_20 : rowAt 148 20 = some (r0 20 21 (.aload_n 0)) := ch148_0 (j := 13) rfl
theorem r148_21 : rowAt 148 21 = some (ra 21 24 (.getfield 31) 0 7 1180) := ch148_0 (j := 14) rfl
theorem r148_24 : rowAt 148 24 = some (r0 24 25 (.isub)) := ch148_0 (j := 15) rfl
theorem r148_25 : rowAt 148 25 = some (25, 26, .iconst 1, 0, 0, 0, 1, 0) := ch148_0 (j := 16) rfl
theorem r148_26 : rowAt 148 26 = some (r0 26 27 (.isub)) := ch148_0 (j := 17) rfl
theorem r148_27 : rowAt 148 27 = some (r0 27 28 (.aload_n 0)) := ch148_0 (j := 18) rfl
theorem r148_28 : rowAt 148 28 = some (ra 28 31 (.getfield 38) 2 7 1181) := ch148_0 (j := 19) rfl
theorem r148_31 : rowAt 148 31 = some (ra 31 34 (.invokestatic 63) 991 2 526) := ch148_0 (j := 20) rfl
theorem r148_34 : rowAt 148 34 = some (ra 34 36 (.istore 7) 7 0 0) := ch148_0 (j := 21) rfl
theorem r148_36 : rowAt 148 36 = some (ra 36 38 (.iload 7) 7 0 0) := ch148_0 (j := 22) rfl
theorem r148_38 : rowAt 148 38 = some (r0 38 39 (.aload_n 0)) := ch148_0 (j := 23) rfl
theorem r148_39 : rowAt 148 39 = some (ra 39 42 (.getfield 38) 2 7 1181) := ch148_0 (j := 24) rfl
theorem r148_42 : rowAt 148 42 = some (r0 42 43 (.isub)) := ch148_0 (j := 25) rfl
theorem r148_43 : rowAt 148 43 = some (ra 43 45 (.istore 8) 8 0 0) := ch148_0 (j := 26) rfl
theorem r148_45 : rowAt 148 45 = some (ra 45 47 (.iload 8) 8 0 0) := ch148_0 (j := 27) rfl
theorem r148_47 : rowAt 148 47 = some (47, 48, .iconst 1, 0, 0, 0, 1, 0) := ch148_0 (j := 28) rfl
theorem r148_48 : rowAt 148 48 = some (r0 48 49 (.iadd)) := ch148_0 (j := 29) rfl
theorem r148_49 : rowAt 148 49 = some (r0 49 50 (.aload_n 0)) := ch148_0 (j := 30) rfl
theorem r148_50 : rowAt 148 50 = some (ra 50 53 (.getfield 35) 1 7 1182) := ch148_0 (j := 31) rfl
theorem r148_53 : rowAt 148 53 = some (ra 53 56 (.if_icmp .lt 16) 69 0 0) := ch148_0 (j := 32) rfl
theorem r148_56 : rowAt 148 56 = some (r0 56 57 (.aload_n 0)) := ch148_0 (j := 33) rfl
theorem r148_57 : rowAt 148 57 = some (ra 57 58 (.iload_n 1) 1 0 0) := ch148_0 (j := 34) rfl
theorem r148_58 : rowAt 148 58 = some (r0 58 59 (.aload_n 0)) := ch148_0 (j := 35) rfl
theorem r148_59 : rowAt 148 59 = some (ra 59 60 (.iload_n 1) 1 0 0) := ch148_0 (j := 36) rfl
theorem r148_60 : rowAt 148 60 = some (ra 60 62 (.iload 6) 6 0 0) := ch148_0 (j := 37) rfl
theorem r148_62 : rowAt 148 62 = some (ra 62 65 (.invokevirtual 76) 150 3 761) := ch148_0 (j := 38) rfl
theorem r148_65 : rowAt 148 65 = some (ra 65 68 (.invokevirtual 69) 149 3 756) := ch148_0 (j := 39) rfl
theorem r148_68 : rowAt 148 68 = some (r0 68 69 (.lreturn)) := ch148_0 (j := 40) rfl
theorem r148_69 : rowAt 148 69 = some (ra 69 70 (.iload_n 1) 1 0 0) := ch148_0 (j := 41) rfl
theorem r148_70 : rowAt 148 70 = some (ra 70 71 (.lload_n 2) 2 0 0) := ch148_0 (j := 42) rfl
theorem r148_71 : rowAt 148 71 = some (ra 71 73 (.iload 7) 7 0 0) := ch148_0 (j := 43) rfl
theorem r148_73 : rowAt 148 73 = some (ra 73 75 (.iload 4) 4 0 0) := ch148_0 (j := 44) rfl
theorem r148_75 : rowAt 148 75 = some (r0 75 76 (.isub)) := ch148_0 (j := 45) rfl
theorem r148_76 : rowAt 148 76 = some (ra 76 78 (.iload 5) 5 0 0) := ch148_0 (j := 46) rfl
theorem r148_78 : rowAt 148 78 = some (ra 78 80 (.iload 6) 6 0 0) := ch148_0 (j := 47) rfl
theorem r148_80 : rowAt 148 80 = some (ra 80 83 (.invokestatic 80) 151 5 766) := ch148_0 (j := 48) rfl
theorem r148_83 : rowAt 148 83 = some (ra 83 85 (.lstore 9) 9 0 0) := ch148_0 (j := 49) rfl
theorem r148_85 : rowAt 148 85 = some (ra 85 87 (.iload 8) 8 0 0) := ch148_0 (j := 50) rfl
theorem r148_87 : rowAt 148 87 = some (r0 87 88 (.i2l)) := ch148_0 (j := 51) rfl
theorem r148_88 : rowAt 148 88 = some (r0 88 89 (.aload_n 0)) := ch148_0 (j := 52) rfl
theorem r148_89 : rowAt 148 89 = some (ra 89 92 (.getfield 31) 0 7 1180) := ch148_0 (j := 53) rfl
theorem r148_92 : rowAt 148 92 = some (r0 92 93 (.lshl)) := ch148_0 (j := 54) rfl
theorem r148_93 : rowAt 148 93 = some (ra 93 95 (.lload 9) 9 0 0) := ch148_0 (j := 55) rfl
theorem r148_95 : rowAt 148 95 = some (r0 95 96 (.ladd)) := ch148_0 (j := 56) rfl
theorem r148_96 : rowAt 148 96 = some (ra 96 98 (.lstore 11) 11 0 0) := ch148_0 (j := 57) rfl
theorem r148_98 : rowAt 148 98 = some (r0 98 99 (.aload_n 0)) := ch148_0 (j := 58) rfl
theorem r148_99 : rowAt 148 99 = some (ra 99 100 (.iload_n 1) 1 0 0) := ch148_0 (j := 59) rfl
theorem r148_100 : rowAt 148 100 = some (ra 100 102 (.lload 11) 11 0 0) := ch148_1 (j := 0) rfl
theorem r148_102 : rowAt 148 102 = some (r0 102 103 (.aload_n 0)) := ch148_1 (j := 1) rfl
theorem r148_103 : rowAt 148 103 = some (ra 103 106 (.getfield 45) 4 7 1179) := ch148_1 (j := 2) rfl
theorem r148_106 : rowAt 148 106 = some (r0 106 107 (.lcmp)) := ch148_1 (j := 3) rfl
theorem r148_107 : rowAt 148 107 = some (ra 107 110 (.ifCond .lt 13) 120 0 0) := ch148_1 (j := 4) rfl
theorem r148_110 : rowAt 148 110 = some (r0 110 111 (.aload_n 0)) := ch148_1 (j := 5) rfl
theorem r148_111 : rowAt 148 111 = some (ra 111 112 (.iload_n 1) 1 0 0) := ch148_1 (j := 6) rfl
theorem r148_112 : rowAt 148 112 = some (ra 112 114 (.iload 6) 6 0 0) := ch148_1 (j := 7) rfl
theorem r148_114 : rowAt 148 114 = some (ra 114 117 (.invokevirtual 76) 150 3 761) := ch148_1 (j := 8) rfl
theorem r148_117 : rowAt 148 117 = some (ra 117 120 (.goto 5) 122 0 0) := ch148_1 (j := 9) rfl
theorem r148_120 : rowAt 148 120 = some (ra 120 122 (.lload 11) 11 0 0) := ch148_1 (j := 10) rfl
theorem r148_122 : rowAt 148 122 = some (ra 122 125 (.invokevirtual 69) 149 3 756) := ch148_1 (j := 11) rfl
theorem r148_125 : rowAt 148 125 = some (r0 125 126 (.lreturn)) := ch148_1 (j := 12) rfl
theorem b148_0 {d : Nat} {q : Rs} {x0 : Nat} {x1 : Int32} {x2 : Int64} {x4 : Int32} {x5 : Int32} {x6 : Int32} {σ : St} 
    (kt : ¬ x2 = (0 : Int64) → Er (d + 1) 148 (13, [some (.ref x0), some (.int x1), some (.long x2), none, some (.int x4), some (.int x5), some (.int x6), none, none, none, none, none, none], [], σ) q)
    (kf : x2 = (0 : Int64) → Er (d + 1) 148 (6, [some (.ref x0), some (.int x1), some (.long x2), none, some (.int x4), some (.int x5), some (.int x6), none, none, none, none, none, none], [], σ) q) :
    Er (d + 1) 148 (0, [some (.ref x0), some (.int x1), some (.long x2), none, some (.int x4), some (.int x5), some (.int x6), none, none, none, none, none, none], [], σ) q := Er.sT (c2 := (1, [some (.ref x0), some (.int x1), some (.long x2), none, some (.int x4), some (.int x5), some (.int x6), none, none, none, none, none, none], [.long x2], σ)) r148_0 rfl rfl <| Er.sT (c2 := (2, [some (.ref x0), some (.int x1), some (.long x2), none, some (.int x4), some (.int x5), some (.int x6), none, none, none, none, none, none], [.long (0 : Int64), .long x2], σ)) r148_1 rfl rfl <| Er.sT (c2 := (3, [some (.ref x0), some (.int x1), some (.long x2), none, some (.int x4), some (.int x5), some (.int x6), none, none, none, none, none, none], [.int (lg_cmp x2 (0 : Int64))], σ)) r148_2 rfl rfl <| Er.sT (c2 := (brn .ne (lg_cmp x2 (0 : Int64)) (0 : Int32) 13 6, [some (.ref x0), some (.int x1), some (.long x2), none, some (.int x4), some (.int x5), some (.int x6), none, none, none, none, none, none], [], σ)) r148_3 rfl rfl <| (bl_ne kt kf)
theorem b148_6 {d : Nat} {q : Rs} {x0 : Nat} {x1 : Int32} {x2 : Int64} {x4 : Int32} {x5 : Int32} {x6 : Int32} {σ : St} {σ2 : St} {r : Int64} (h1 : x0 = 46 ∨ x0 = 47)
    (hy : Er d 149 (0, ent 149 [.ref x0, .int x1, .long (0 : Int64)], [], σ) (.inl (some (.long r)), σ2, 0))
    (k : Er (d + 1) 148 (12, [some (.ref x0), some (.int x1), some (.long x2), none, some (.int x4), some (.int x5), some (.int x6), none, none, none, none, none, none], [.long r], σ2) q) :
    Er (d + 1) 148 (6, [some (.ref x0), some (.int x1), some (.long x2), none, some (.int x4), some (.int x5), some (.int x6), none, none, none, none, none, none], [], σ) q := Er.sT (c2 := (7, [some (.ref x0), some (.int x1), some (.long x2), none, some (.int x4), some (.int x5), some (.int x6), none, none, none, none, none, none], [.ref x0], σ)) r148_6 rfl rfl <| Er.sT (c2 := (8, [some (.ref x0), some (.int x1), some (.long x2), none, some (.int x4), some (.int x5), some (.int x6), none, none, none, none, none, none], [.int x1, .ref x0], σ)) r148_7 rfl rfl <| Er.sT (c2 := (9, [some (.ref x0), some (.int x1), some (.long x2), none, some (.int x4), some (.int x5), some (.int x6), none, none, none, none, none, none], [.long (0 : Int64), .int x1, .ref x0], σ)) r148_8 rfl rfl <| (Er.call (vs := [.ref x0, .int x1, .long (0 : Int64)]) (rest := []) r148_9 rfl rfl (Nat.le_of_ble_eq_true rfl) (Nat.le_of_ble_eq_true rfl) (fun _ => ⟨_, _, rfl, h1⟩) hy k)
theorem b148_12 {d : Nat} {x0 : Nat} {x1 : Int32} {x2 : Int64} {x4 : Int32} {x5 : Int32} {x6 : Int32} {s0 : Int64} {σ : St}  :
    Er (d + 1) 148 (12, [some (.ref x0), some (.int x1), some (.long x2), none, some (.int x4), some (.int x5), some (.int x6), none, none, none, none, none, none], [.long s0], σ) (.inl (some (.long s0)), σ, 0) := (Er.ret r148_12 rfl ⟨_, rfl, rfl, rfl⟩)
theorem b148_13 {d : Nat} {q : Rs} {x0 : Nat} {x1 : Int32} {x2 : Int64} {x4 : Int32} {x5 : Int32} {x6 : Int32} {σ : St} {σ2 : St} {r : Int32} 
    (hy : Er d 44 (0, ent 44 [.long x2], [], σ) (.inl (some (.int r)), σ2, 0))
    (k : Er (d + 1) 148 (17, [some (.ref x0), some (.int x1), some (.long x2), none, some (.int x4), some (.int x5), some (.int x6), none, none, none, none, none, none], [.int r], σ2) q) :
    Er (d + 1) 148 (13, [some (.ref x0), some (.int x1), some (.long x2), none, some (.int x4), some (.int x5), some (.int x6), none, none, none, none, none, none], [], σ) q := Er.sT (c2 := (14, [some (.ref x0), some (.int x1), some (.long x2), none, some (.int x4), some (.int x5), some (.int x6), none, none, none, none, none, none], [.long x2], σ)) r148_13 rfl rfl <| (Er.call (vs := [.long x2]) (rest := []) r148_14 rfl rfl (Nat.le_of_ble_eq_true rfl) (Nat.le_of_ble_eq_true rfl) (fun h => absurd h (by decide +kernel)) hy k)
theorem b148_17 {d : Nat} {q : Rs} {x0 : Nat} {x1 : Int32} {x2 : Int64} {x4 : Int32} {x5 : Int32} {x6 : Int32} {s0 : Int32} {σ : St} (h1 : x0 = 46 ∨ x0 = 47)
    (kt : (((if (((s0 + x4) - (efi x0 0)) - (1 : Int32)) < (efi x0 2) then (efi x0 2) else (((s0 + x4) - (efi x0 0)) - (1 : Int32))) - (efi x0 2)) + (1 : Int32)) < (efi x0 1) → Er (d + 1) 148 (69, [some (.ref x0), some (.int x1), some (.long x2), none, some (.int x4), some (.int x5), some (.int x6), some (.int (if (((s0 + x4) - (efi x0 0)) - (1 : Int32)) < (efi x0 2) then (efi x0 2) else (((s0 + x4) - (efi x0 0)) - (1 : Int32)))), some (.int ((if (((s0 + x4) - (efi x0 0)) - (1 : Int32)) < (efi x0 2) then (efi x0 2) else (((s0 + x4) - (efi x0 0)) - (1 : Int32))) - (efi x0 2))), none, none, none, none], [], σ) q)
    (kf : ¬ (((if (((s0 + x4) - (efi x0 0)) - (1 : Int32)) < (efi x0 2) then (efi x0 2) else (((s0 + x4) - (efi x0 0)) - (1 : Int32))) - (efi x0 2)) + (1 : Int32)) < (efi x0 1) → Er (d + 1) 148 (56, [some (.ref x0), some (.int x1), some (.long x2), none, some (.int x4), some (.int x5), some (.int x6), some (.int (if (((s0 + x4) - (efi x0 0)) - (1 : Int32)) < (efi x0 2) then (efi x0 2) else (((s0 + x4) - (efi x0 0)) - (1 : Int32)))), some (.int ((if (((s0 + x4) - (efi x0 0)) - (1 : Int32)) < (efi x0 2) then (efi x0 2) else (((s0 + x4) - (efi x0 0)) - (1 : Int32))) - (efi x0 2))), none, none, none, none], [], σ) q) :
    Er (d + 1) 148 (17, [some (.ref x0), some (.int x1), some (.long x2), none, some (.int x4), some (.int x5), some (.int x6), none, none, none, none, none, none], [.int s0], σ) q := Er.sT (c2 := (19, [some (.ref x0), some (.int x1), some (.long x2), none, some (.int x4), some (.int x5), some (.int x6), none, none, none, none, none, none], [.int x4, .int s0], σ)) r148_17 rfl rfl <| Er.sT (c2 := (20, [some (.ref x0), some (.int x1), some (.long x2), none, some (.int x4), some (.int x5), some (.int x6), none, none, none, none, none, none], [.int (s0 + x4)], σ)) r148_19 rfl rfl <| Er.sT (c2 := (21, [some (.ref x0), some (.int x1), some (.long x2), none, some (.int x4), some (.int x5), some (.int x6), none, none, none, none, none, none], [.ref x0, .int (s0 + x4)], σ)) r148_20 rfl rfl <| Er.st (P := (x0 = 46 ∨ x0 = 47)) (c2 := (24, [some (.ref x0), some (.int x1), some (.long x2), none, some (.int x4), some (.int x5), some (.int x6), none, none, none, none, none, none], [.int (efi x0 0), .int (s0 + x4)], σ)) r148_21 rfl rfl h1 <| Er.sT (c2 := (25, [some (.ref x0), some (.int x1), some (.long x2), none, some (.int x4), some (.int x5), some (.int x6), none, none, none, none, none, none], [.int ((s0 + x4) - (efi x0 0))], σ)) r148_24 rfl rfl <| Er.sT (c2 := (26, [some (.ref x0), some (.int x1), some (.long x2), none, some (.int x4), some (.int x5), some (.int x6), none, none, none, none, none, none], [.int (1 : Int32), .int ((s0 + x4) - (efi x0 0))], σ)) r148_25 rfl rfl <| Er.sT (c2 := (27, [some (.ref x0), some (.int x1), some (.long x2), none, some (.int x4), some (.int x5), some (.int x6), none, none, none, none, none, none], [.int (((s0 + x4) - (efi x0 0)) - (1 : Int32))], σ)) r148_26 rfl rfl <| Er.sT (c2 := (28, [some (.ref x0), some (.int x1), some (.long x2), none, some (.int x4), some (.int x5), some (.int x6), none, none, none, none, none, none], [.ref x0, .int (((s0 + x4) - (efi x0 0)) - (1 : Int32))], σ)) r148_27 rfl rfl <| Er.st (P := (x0 = 46 ∨ x0 = 47)) (c2 := (31, [some (.ref x0), some (.int x1), some (.long x2), none, some (.int x4), some (.int x5), some (.int x6), none, none, none, none, none, none], [.int (efi x0 2), .int (((s0 + x4) - (efi x0 0)) - (1 : Int32))], σ)) r148_28 rfl rfl h1 <| Er.st (P := ((([] : List Value).map fun v => v.category).sum ≤ 8)) (c2 := (34, [some (.ref x0), some (.int x1), some (.long x2), none, some (.int x4), some (.int x5), some (.int x6), none, none, none, none, none, none], [.int (if (((s0 + x4) - (efi x0 0)) - (1 : Int32)) < (efi x0 2) then (efi x0 2) else (((s0 + x4) - (efi x0 0)) - (1 : Int32)))], σ)) r148_31 rfl rfl (Nat.le_of_ble_eq_true rfl) <| Er.sT (c2 := (36, [some (.ref x0), some (.int x1), some (.long x2), none, some (.int x4), some (.int x5), some (.int x6), some (.int (if (((s0 + x4) - (efi x0 0)) - (1 : Int32)) < (efi x0 2) then (efi x0 2) else (((s0 + x4) - (efi x0 0)) - (1 : Int32)))), none, none, none, none, none], [], σ)) r148_34 rfl rfl <| Er.sT (c2 := (38, [some (.ref x0), some (.int x1), some (.long x2), none, some (.int x4), some (.int x5), some (.int x6), some (.int (if (((s0 + x4) - (efi x0 0)) - (1 : Int32)) < (efi x0 2) then (efi x0 2) else (((s0 + x4) - (efi x0 0)) - (1 : Int32)))), none, none, none, none, none], [.int (if (((s0 + x4) - (efi x0 0)) - (1 : Int32)) < (efi x0 2) then (efi x0 2) else (((s0 + x4) - (efi x0 0)) - (1 : Int32)))], σ)) r148_36 rfl rfl <| Er.sT (c2 := (39, [some (.ref x0), some (.int x1), some (.long x2), none, some (.int x4), some (.int x5), some (.int x6), some (.int (if (((s0 + x4) - (efi x0 0)) - (1 : Int32)) < (efi x0 2) then (efi x0 2) else (((s0 + x4) - (efi x0 0)) - (1 : Int32)))), none, none, none, none, none], [.ref x0, .int (if (((s0 + x4) - (efi x0 0)) - (1 : Int32)) < (efi x0 2) then (efi x0 2) else (((s0 + x4) - (efi x0 0)) - (1 : Int32)))], σ)) r148_38 rfl rfl <| Er.st (P := (x0 = 46 ∨ x0 = 47)) (c2 := (42, [some (.ref x0), some (.int x1), some (.long x2), none, some (.int x4), some (.int x5), some (.int x6), some (.int (if (((s0 + x4) - (efi x0 0)) - (1 : Int32)) < (efi x0 2) then (efi x0 2) else (((s0 + x4) - (efi x0 0)) - (1 : Int32)))), none, none, none, none, none], [.int (efi x0 2), .int (if (((s0 + x4) - (efi x0 0)) - (1 : Int32)) < (efi x0 2) then (efi x0 2) else (((s0 + x4) - (efi x0 0)) - (1 : Int32)))], σ)) r148_39 rfl rfl h1 <| Er.sT (c2 := (43, [some (.ref x0), some (.int x1), some (.long x2), none, some (.int x4), some (.int x5), some (.int x6), some (.int (if (((s0 + x4) - (efi x0 0)) - (1 : Int32)) < (efi x0 2) then (efi x0 2) else (((s0 + x4) - (efi x0 0)) - (1 : Int32)))), none, none, none, none, none], [.int ((if (((s0 + x4) - (efi x0 0)) - (1 : Int32)) < (efi x0 2) then (efi x0 2) else (((s0 + x4) - (efi x0 0)) - (1 : Int32))) - (efi x0 2))], σ)) r148_42 rfl rfl <| Er.sT (c2 := (45, [some (.ref x0), some (.int x1), some (.long x2), none, some (.int x4), some (.int x5), some (.int x6), some (.int (if (((s0 + x4) - (efi x0 0)) - (1 : Int32)) < (efi x0 2) then (efi x0 2) else (((s0 + x4) - (efi x0 0)) - (1 : Int32)))), some (.int ((if (((s0 + x4) - (efi x0 0)) - (1 : Int32)) < (efi x0 2) then (efi x0 2) else (((s0 + x4) - (efi x0 0)) - (1 : Int32))) - (efi x0 2))), none, none, none, none], [], σ)) r148_43 rfl rfl <| Er.sT (c2 := (47, [some (.ref x0), some (.int x1), some (.long x2), none, some (.int x4), some (.int x5), some (.int x6), some (.int (if (((s0 + x4) - (efi x0 0)) - (1 : Int32)) < (efi x0 2) then (efi x0 2) else (((s0 + x4) - (efi x0 0)) - (1 : Int32)))), some (.int ((if (((s0 + x4) - (efi x0 0)) - (1 : Int32)) < (efi x0 2) then (efi x0 2) else (((s0 + x4) - (efi x0 0)) - (1 : Int32))) - (efi x0 2))), none, none, none, none], [.int ((if (((s0 + x4) - (efi x0 0)) - (1 : Int32)) < (efi x0 2) then (efi x0 2) else (((s0 + x4) - (efi x0 0)) - (1 : Int32))) - (efi x0 2))], σ)) r148_45 rfl rfl <| Er.sT (c2 := (48, [some (.ref x0), some (.int x1), some (.long x2), none, some (.int x4), some (.int x5), some (.int x6), some (.int (if (((s0 + x4) - (efi x0 0)) - (1 : Int32)) < (efi x0 2) then (efi x0 2) else (((s0 + x4) - (efi x0 0)) - (1 : Int32)))), some (.int ((if (((s0 + x4) - (efi x0 0)) - (1 : Int32)) < (efi x0 2) then (efi x0 2) else (((s0 + x4) - (efi x0 0)) - (1 : Int32))) - (efi x0 2))), none, none, none, none], [.int (1 : Int32), .int ((if (((s0 + x4) - (efi x0 0)) - (1 : Int32)) < (efi x0 2) then (efi x0 2) else (((s0 + x4) - (efi x0 0)) - (1 : Int32))) - (efi x0 2))], σ)) r148_47 rfl rfl <| Er.sT (c2 := (49, [some (.ref x0), some (.int x1), some (.long x2), none, some (.int x4), some (.int x5), some (.int x6), some (.int (if (((s0 + x4) - (efi x0 0)) - (1 : Int32)) < (efi x0 2) then (efi x0 2) else (((s0 + x4) - (efi x0 0)) - (1 : Int32)))), some (.int ((if (((s0 + x4) - (efi x0 0)) - (1 : Int32)) < (efi x0 2) then (efi x0 2) else (((s0 + x4) - (efi x0 0)) - (1 : Int32))) - (efi x0 2))), none, none, none, none], [.int (((if (((s0 + x4) - (efi x0 0)) - (1 : Int32)) < (efi x0 2) then (efi x0 2) else (((s0 + x4) - (efi x0 0)) - (1 : Int32))) - (efi x0 2)) + (1 : Int32))], σ)) r148_48 rfl rfl <| Er.sT (c2 := (50, [some (.ref x0), some (.int x1), some (.long x2), none, some (.int x4), some (.int x5), some (.int x6), some (.int (if (((s0 + x4) - (efi x0 0)) - (1 : Int32)) < (efi x0 2) then (efi x0 2) else (((s0 + x4) - (efi x0 0)) - (1 : Int32)))), some (.int ((if (((s0 + x4) - (efi x0 0)) - (1 : Int32)) < (efi x0 2) then (efi x0 2) else (((s0 + x4) - (efi x0 0)) - (1 : Int32))) - (efi x0 2))), none, none, none, none], [.ref x0, .int (((if (((s0 + x4) - (efi x0 0)) - (1 : Int32)) < (efi x0 2) then (efi x0 2) else (((s0 + x4) - (efi x0 0)) - (1 : Int32))) - (efi x0 2)) + (1 : Int32))], σ)) r148_49 rfl rfl <| Er.st (P := (x0 = 46 ∨ x0 = 47)) (c2 := (53, [some (.ref x0), some (.int x1), some (.long x2), none, some (.int x4), some (.int x5), some (.int x6), some (.int (if (((s0 + x4) - (efi x0 0)) - (1 : Int32)) < (efi x0 2) then (efi x0 2) else (((s0 + x4) - (efi x0 0)) - (1 : Int32)))), some (.int ((if (((s0 + x4) - (efi x0 0)) - (1 : Int32)) < (efi x0 2) then (efi x0 2) else (((s0 + x4) - (efi x0 0)) - (1 : Int32))) - (efi x0 2))), none, none, none, none], [.int (efi x0 1), .int (((if (((s0 + x4) - (efi x0 0)) - (1 : Int32)) < (efi x0 2) then (efi x0 2) else (((s0 + x4) - (efi x0 0)) - (1 : Int32))) - (efi x0 2)) + (1 : Int32))], σ)) r148_50 rfl rfl h1 <| Er.sT (c2 := (brn .lt (((if (((s0 + x4) - (efi x0 0)) - (1 : Int32)) < (efi x0 2) then (efi x0 2) else (((s0 + x4) - (efi x0 0)) - (1 : Int32))) - (efi x0 2)) + (1 : Int32)) (efi x0 1) 69 56, [some (.ref x0), some (.int x1), some (.long x2), none, some (.int x4), some (.int x5), some (.int x6), some (.int (if (((s0 + x4) - (efi x0 0)) - (1 : Int32)) < (efi x0 2) then (efi x0 2) else (((s0 + x4) - (efi x0 0)) - (1 : Int32)))), some (.int ((if (((s0 + x4) - (efi x0 0)) - (1 : Int32)) < (efi x0 2) then (efi x0 2) else (((s0 + x4) - (efi x0 0)) - (1 : Int32))) - (efi x0 2))), none, none, none, none], [], σ)) r148_53 rfl rfl <| (br_lt kt kf)
theorem b148_56 {d : Nat} {q : Rs} {x0 : Nat} {x1 : Int32} {x2 : Int64} {x4 : Int32} {x5 : Int32} {x6 : Int32} {x7 : Int32} {x8 : Int32} {σ : St} {σ2 : St} {r : Int64} (h1 : x0 = 46 ∨ x0 = 47)
    (hy : Er d 150 (0, ent 150 [.ref x0, .int x1, .int x6], [], σ) (.inl (some (.long r)), σ2, 0))
    (k : Er (d + 1) 148 (65, [some (.ref x0), some (.int x1), some (.long x2), none, some (.int x4), some (.int x5), some (.int x6), some (.int x7), some (.int x8), none, none, none, none], [.long r, .int x1, .ref x0], σ2) q) :
    Er (d + 1) 148 (56, [some (.ref x0), some (.int x1), some (.long x2), none, some (.int x4), some (.int x5), some (.int x6), some (.int x7), some (.int x8), none, none, none, none], [], σ) q := Er.sT (c2 := (57, [some (.ref x0), some (.int x1), some (.long x2), none, some (.int x4), some (.int x5), some (.int x6), some (.int x7), some (.int x8), none, none, none, none], [.ref x0], σ)) r148_56 rfl rfl <| Er.sT (c2 := (58, [some (.ref x0), some (.int x1), some (.long x2), none, some (.int x4), some (.int x5), some (.int x6), some (.int x7), some (.int x8), none, none, none, none], [.int x1, .ref x0], σ)) r148_57 rfl rfl <| Er.sT (c2 := (59, [some (.ref x0), some (.int x1), some (.long x2), none, some (.int x4), some (.int x5), some (.int x6), some (.int x7), some (.int x8), none, none, none, none], [.ref x0, .int x1, .ref x0], σ)) r148_58 rfl rfl <| Er.sT (c2 := (60, [some (.ref x0), some (.int x1), some (.long x2), none, some (.int x4), some (.int x5), some (.int x6), some (.int x7), some (.int x8), none, none, none, none], [.int x1, .ref x0, .int x1, .ref x0], σ)) r148_59 rfl rfl <| Er.sT (c2 := (62, [some (.ref x0), some (.int x1), some (.long x2), none, some (.int x4), some (.int x5), some (.int x6), some (.int x7), some (.int x8), none, none, none, none], [.int x6, .int x1, .ref x0, .int x1, .ref x0], σ)) r148_60 rfl rfl <| (Er.call (vs := [.ref x0, .int x1, .int x6]) (rest := [.int x1, .ref x0]) r148_62 rfl rfl (Nat.le_of_ble_eq_true rfl) (Nat.le_of_ble_eq_true rfl) (fun _ => ⟨_, _, rfl, h1⟩) hy k)
theorem b148_65 {d : Nat} {q : Rs} {x0 : Nat} {x1 : Int32} {x2 : Int64} {x4 : Int32} {x5 : Int32} {x6 : Int32} {x7 : Int32} {x8 : Int32} {s0 : Nat} {s1 : Int32} {s2 : Int64} {σ : St} {σ2 : St} {r : Int64} (h1 : s0 = 46 ∨ s0 = 47)
    (hy : Er d 149 (0, ent 149 [.ref s0, .int s1, .long s2], [], σ) (.inl (some (.long r)), σ2, 0))
    (k : Er (d + 1) 148 (68, [some (.ref x0), some (.int x1), some (.long x2), none, some (.int x4), some (.int x5), some (.int x6), some (.int x7), some (.int x8), none, none, none, none], [.long r], σ2) q) :
    Er (d + 1) 148 (65, [some (.ref x0), some (.int x1), some (.long x2), none, some (.int x4), some (.int x5), some (.int x6), some (.int x7), some (.int x8), none, none, none, none], [.long s2, .int s1, .ref s0], σ) q := (Er.call (vs := [.ref s0, .int s1, .long s2]) (rest := []) r148_65 rfl rfl (Nat.le_of_ble_eq_true rfl) (Nat.le_of_ble_eq_true rfl) (fun _ => ⟨_, _, rfl, h1⟩) hy k)
theorem b148_68 {d : Nat} {x0 : Nat} {x1 : Int32} {x2 : Int64} {x4 : Int32} {x5 : Int32} {x6 : Int32} {x7 : Int32} {x8 : Int32} {s0 : Int64} {σ : St}  :
    Er (d + 1) 148 (68, [some (.ref x0), some (.int x1), some (.long x2), none, some (.int x4), some (.int x5), some (.int x6), some (.int x7), some (.int x8), none, none, none, none], [.long s0], σ) (.inl (some (.long s0)), σ, 0) := (Er.ret r148_68 rfl ⟨_, rfl, rfl, rfl⟩)
theorem b148_69 {d : Nat} {q : Rs} {x0 : Nat} {x1 : Int32} {x2 : Int64} {x4 : Int32} {x5 : Int32} {x6 : Int32} {x7 : Int32} {x8 : Int32} {σ : St} {σ2 : St} {r : Int64} 
    (hy : Er d 151 (0, ent 151 [.int x1, .long x2, .int (x7 - x4), .int x5, .int x6], [], σ) (.inl (some (.long r)), σ2, 0))
    (k : Er (d + 1) 148 (83, [some (.ref x0), some (.int x1), some (.long x2), none, some (.int x4), some (.int x5), some (.int x6), some (.int x7), some (.int x8), none, none, none, none], [.long r], σ2) q) :
    Er (d + 1) 148 (69, [some (.ref x0), some (.int x1), some (.long x2), none, some (.int x4), some (.int x5), some (.int x6), some (.int x7), some (.int x8), none, none, none, none], [], σ) q := Er.sT (c2 := (70, [some (.ref x0), some (.int x1), some (.long x2), none, some (.int x4), some (.int x5), some (.int x6), some (.int x7), some (.int x8), none, none, none, none], [.int x1], σ)) r148_69 rfl rfl <| Er.sT (c2 := (71, [some (.ref x0), some (.int x1), some (.long x2), none, some (.int x4), some (.int x5), some (.int x6), some (.int x7), some (.int x8), none, none, none, none], [.long x2, .int x1], σ)) r148_70 rfl rfl <| Er.sT (c2 := (73, [some (.ref x0), some (.int x1), some (.long x2), none, some (.int x4), some (.int x5), some (.int x6), some (.int x7), some (.int x8), none, none, none, none], [.int x7, .long x2, .int x1], σ)) r148_71 rfl rfl <| Er.sT (c2 := (75, [some (.ref x0), some (.int x1), some (.long x2), none, some (.int x4), some (.int x5), some (.int x6), some (.int x7), some (.int x8), none, none, none, none], [.int x4, .int x7, .long x2, .int x1], σ)) r148_73 rfl rfl <| Er.sT (c2 := (76, [some (.ref x0), some (.int x1), some (.long x2), none, some (.int x4), some (.int x5), some (.int x6), some (.int x7), some (.int x8), none, none, none, none], [.int (x7 - x4), .long x2, .int x1], σ)) r148_75 rfl rfl <| Er.sT (c2 := (78, [some (.ref x0), some (.int x1), some (.long x2), none, some (.int x4), some (.int x5), some (.int x6), some (.int x7), some (.int x8), none, none, none, none], [.int x5, .int (x7 - x4), .long x2, .int x1], σ)) r148_76 rfl rfl <| Er.sT (c2 := (80, [some (.ref x0), some (.int x1), some (.long x2), none, some (.int x4), some (.int x5), some (.int x6), some (.int x7), some (.int x8), none, none, none, none], [.int x6, .int x5, .int (x7 - x4), .long x2, .int x1], σ)) r148_78 rfl rfl <| (Er.call (vs := [.int x1, .long x2, .int (x7 - x4), .int x5, .int x6]) (rest := []) r148_80 rfl rfl (Nat.le_of_ble_eq_true rfl) (Nat.le_of_ble_eq_true rfl) (fun h => absurd h (by decide +kernel)) hy k)
theorem b148_83 {d : Nat} {q : Rs} {x0 : Nat} {x1 : Int32} {x2 : Int64} {x4 : Int32} {x5 : Int32} {x6 : Int32} {x7 : Int32} {x8 : Int32} {s0 : Int64} {σ : St} (h1 : x0 = 46 ∨ x0 = 47)
    (kt : (((x8.toInt64) <<< ((efi x0 0).toInt64 &&& 63)) + s0) < (efl x0 4) → Er (d + 1) 148 (120, [some (.ref x0), some (.int x1), some (.long x2), none, some (.int x4), some (.int x5), some (.int x6), some (.int x7), some (.int x8), some (.long s0), none, some (.long (((x8.toInt64) <<< ((efi x0 0).toInt64 &&& 63)) + s0)), none], [.int x1, .ref x0], σ) q)
    (kf : ¬ (((x8.toInt64) <<< ((efi x0 0).toInt64 &&& 63)) + s0) < (efl x0 4) → Er (d + 1) 148 (110, [some (.ref x0), some (.int x1), some (.long x2), none, some (.int x4), some (.int x5), some (.int x6), some (.int x7), some (.int x8), some (.long s0), none, some (.long (((x8.toInt64) <<< ((efi x0 0).toInt64 &&& 63)) + s0)), none], [.int x1, .ref x0], σ) q) :
    Er (d + 1) 148 (83, [some (.ref x0), some (.int x1), some (.long x2), none, some (.int x4), some (.int x5), some (.int x6), some (.int x7), some (.int x8), none, none, none, none], [.long s0], σ) q := Er.sT (c2 := (85, [some (.ref x0), some (.int x1), some (.long x2), none, some (.int x4), some (.int x5), some (.int x6), some (.int x7), some (.int x8), some (.long s0), none, none, none], [], σ)) r148_83 rfl rfl <| Er.sT (c2 := (87, [some (.ref x0), some (.int x1), some (.long x2), none, some (.int x4), some (.int x5), some (.int x6), some (.int x7), some (.int x8), some (.long s0), none, none, none], [.int x8], σ)) r148_85 rfl rfl <| Er.sT (c2 := (88, [some (.ref x0), some (.int x1), some (.long x2), none, some (.int x4), some (.int x5), some (.int x6), some (.int x7), some (.int x8), some (.long s0), none, none, none], [.long (x8.toInt64)], σ)) r148_87 rfl rfl <| Er.sT (c2 := (89, [some (.ref x0), some (.int x1), some (.long x2), none, some (.int x4), some (.int x5), some (.int x6), some (.int x7), some (.int x8), some (.long s0), none, none, none], [.ref x0, .long (x8.toInt64)], σ)) r148_88 rfl rfl <| Er.st (P := (x0 = 46 ∨ x0 = 47)) (c2 := (92, [some (.ref x0), some (.int x1), some (.long x2), none, some (.int x4), some (.int x5), some (.int x6), some (.int x7), some (.int x8), some (.long s0), none, none, none], [.int (efi x0 0), .long (x8.toInt64)], σ)) r148_89 rfl rfl h1 <| Er.sT (c2 := (93, [some (.ref x0), some (.int x1), some (.long x2), none, some (.int x4), some (.int x5), some (.int x6), some (.int x7), some (.int x8), some (.long s0), none, none, none], [.long ((x8.toInt64) <<< ((efi x0 0).toInt64 &&& 63))], σ)) r148_92 rfl rfl <| Er.sT (c2 := (95, [some (.ref x0), some (.int x1), some (.long x2), none, some (.int x4), some (.int x5), some (.int x6), some (.int x7), some (.int x8), some (.long s0), none, none, none], [.long s0, .long ((x8.toInt64) <<< ((efi x0 0).toInt64 &&& 63))], σ)) r148_93 rfl rfl <| Er.sT (c2 := (96, [some (.ref x0), some (.int x1), some (.long x2), none, some (.int x4), some (.int x5), some (.int x6), some (.int x7), some (.int x8), some (.long s0), none, none, none], [.long (((x8.toInt64) <<< ((efi x0 0).toInt64 &&& 63)) + s0)], σ)) r148_95 rfl rfl <| Er.sT (c2 := (98, [some (.ref x0), some (.int x1), some (.long x2), none, some (.int x4), some (.int x5), some (.int x6), some (.int x7), some (.int x8), some (.long s0), none, some (.long (((x8.toInt64) <<< ((efi x0 0).toInt64 &&& 63)) + s0)), none], [], σ)) r148_96 rfl rfl <| Er.sT (c2 := (99, [some (.ref x0), some (.int x1), some (.long x2), none, some (.int x4), some (.int x5), some (.int x6), some (.int x7), some (.int x8), some (.long s0), none, some (.long (((x8.toInt64) <<< ((efi x0 0).toInt64 &&& 63)) + s0)), none], [.ref x0], σ)) r148_98 rfl rfl <| Er.sT (c2 := (100, [some (.ref x0), some (.int x1), some (.long x2), none, some (.int x4), some (.int x5), some (.int x6), some (.int x7), some (.int x8), some (.long s0), none, some (.long (((x8.toInt64) <<< ((efi x0 0).toInt64 &&& 63)) + s0)), none], [.int x1, .ref x0], σ)) r148_99 rfl rfl <| Er.sT (c2 := (102, [some (.ref x0), some (.int x1), some (.long x2), none, some (.int x4), some (.int x5), some (.int x6), some (.int x7), some (.int x8), some (.long s0), none, some (.long (((x8.toInt64) <<< ((efi x0 0).toInt64 &&& 63)) + s0)), none], [.long (((x8.toInt64) <<< ((efi x0 0).toInt64 &&& 63)) + s0), .int x1, .ref x0], σ)) r148_100 rfl rfl <| Er.sT (c2 := (103, [some (.ref x0), some (.int x1), some (.long x2), none, some (.int x4), some (.int x5), some (.int x6), some (.int x7), some (.int x8), some (.long s0), none, some (.long (((x8.toInt64) <<< ((efi x0 0).toInt64 &&& 63)) + s0)), none], [.ref x0, .long (((x8.toInt64) <<< ((efi x0 0).toInt64 &&& 63)) + s0), .int x1, .ref x0], σ)) r148_102 rfl rfl <| Er.st (P := (x0 = 46 ∨ x0 = 47)) (c2 := (106, [some (.ref x0), some (.int x1), some (.long x2), none, some (.int x4), some (.int x5), some (.int x6), some (.int x7), some (.int x8), some (.long s0), none, some (.long (((x8.toInt64) <<< ((efi x0 0).toInt64 &&& 63)) + s0)), none], [.long (efl x0 4), .long (((x8.toInt64) <<< ((efi x0 0).toInt64 &&& 63)) + s0), .int x1, .ref x0], σ)) r148_103 rfl rfl h1 <| Er.sT (c2 := (107, [some (.ref x0), some (.int x1), some (.long x2), none, some (.int x4), some (.int x5), some (.int x6), some (.int x7), some (.int x8), some (.long s0), none, some (.long (((x8.toInt64) <<< ((efi x0 0).toInt64 &&& 63)) + s0)), none], [.int (lg_cmp (((x8.toInt64) <<< ((efi x0 0).toInt64 &&& 63)) + s0) (efl x0 4)), .int x1, .ref x0], σ)) r148_106 rfl rfl <| Er.sT (c2 := (brn .lt (lg_cmp (((x8.toInt64) <<< ((efi x0 0).toInt64 &&& 63)) + s0) (efl x0 4)) (0 : Int32) 120 110, [some (.ref x0), some (.int x1), some (.long x2), none, some (.int x4), some (.int x5), some (.int x6), some (.int x7), some (.int x8), some (.long s0), none, some (.long (((x8.toInt64) <<< ((efi x0 0).toInt64 &&& 63)) + s0)), none], [.int x1, .ref x0], σ)) r148_107 rfl rfl <| (bl_lt kt kf)
theorem b148_110 {d : Nat} {q : Rs} {x0 : Nat} {x1 : Int32} {x2 : Int64} {x4 : Int32} {x5 : Int32} {x6 : Int32} {x7 : Int32} {x8 : Int32} {x9 : Int64} {x11 : Int64} {s0 : Nat} {s1 : Int32} {σ : St} {σ2 : St} {r : Int64} (h1 : x0 = 46 ∨ x0 = 47)
    (hy : Er d 150 (0, ent 150 [.ref x0, .int x1, .int x6], [], σ) (.inl (some (.long r)), σ2, 0))
    (k : Er (d + 1) 148 (117, [some (.ref x0), some (.int x1), some (.long x2), none, some (.int x4), some (.int x5), some (.int x6), some (.int x7), some (.int x8), some (.long x9), none, some (.long x11), none], [.long r, .int s1, .ref s0], σ2) q) :
    Er (d + 1) 148 (110, [some (.ref x0), some (.int x1), some (.long x2), none, some (.int x4), some (.int x5), some (.int x6), some (.int x7), some (.int x8), some (.long x9), none, some (.long x11), none], [.int s1, .ref s0], σ) q := Er.sT (c2 := (111, [some (.ref x0), some (.int x1), some (.long x2), none, some (.int x4), some (.int x5), some (.int x6), some (.int x7), some (.int x8), some (.long x9), none, some (.long x11), none], [.ref x0, .int s1, .ref s0], σ)) r148_110 rfl rfl <| Er.sT (c2 := (112, [some (.ref x0), some (.int x1), some (.long x2), none, some (.int x4), some (.int x5), some (.int x6), some (.int x7), some (.int x8), some (.long x9), none, some (.long x11), none], [.int x1, .ref x0, .int s1, .ref s0], σ)) r148_111 rfl rfl <| Er.sT (c2 := (114, [some (.ref x0), some (.int x1), some (.long x2), none, some (.int x4), some (.int x5), some (.int x6), some (.int x7), some (.int x8), some (.long x9), none, some (.long x11), none], [.int x6, .int x1, .ref x0, .int s1, .ref s0], σ)) r148_112 rfl rfl <| (Er.call (vs := [.ref x0, .int x1, .int x6]) (rest := [.int s1, .ref s0]) r148_114 rfl rfl (Nat.le_of_ble_eq_true rfl) (Nat.le_of_ble_eq_true rfl) (fun _ => ⟨_, _, rfl, h1⟩) hy k)
theorem b148_117 {d : Nat} {q : Rs} {x0 : Nat} {x1 : Int32} {x2 : Int64} {x4 : Int32} {x5 : Int32} {x6 : Int32} {x7 : Int32} {x8 : Int32} {x9 : Int64} {x11 : Int64} {s0 : Nat} {s1 : Int32} {s2 : Int64} {σ : St} 
    (k : Er (d + 1) 148 (122, [some (.ref x0), some (.int x1), some (.long x2), none, some (.int x4), some (.int x5), some (.int x6), some (.int x7), some (.int x8), some (.long x9), none, some (.long x11), none], [.long s2, .int s1, .ref s0], σ) q) :
    Er (d + 1) 148 (117, [some (.ref x0), some (.int x1), some (.long x2), none, some (.int x4), some (.int x5), some (.int x6), some (.int x7), some (.int x8), some (.long x9), none, some (.long x11), none], [.long s2, .int s1, .ref s0], σ) q := Er.sT (c2 := (122, [some (.ref x0), some (.int x1), some (.long x2), none, some (.int x4), some (.int x5), some (.int x6), some (.int x7), some (.int x8), some (.long x9), none, some (.long x11), none], [.long s2, .int s1, .ref s0], σ)) r148_117 rfl rfl <| k
theorem b148_120 {d : Nat} {q : Rs} {x0 : Nat} {x1 : Int32} {x2 : Int64} {x4 : Int32} {x5 : Int32} {x6 : Int32} {x7 : Int32} {x8 : Int32} {x9 : Int64} {x11 : Int64} {s0 : Nat} {s1 : Int32} {σ : St} 
    (k : Er (d + 1) 148 (122, [some (.ref x0), some (.int x1), some (.long x2), none, some (.int x4), some (.int x5), some (.int x6), some (.int x7), some (.int x8), some (.long x9), none, some (.long x11), none], [.long x11, .int s1, .ref s0], σ) q) :
    Er (d + 1) 148 (120, [some (.ref x0), some (.int x1), some (.long x2), none, some (.int x4), some (.int x5), some (.int x6), some (.int x7), some (.int x8), some (.long x9), none, some (.long x11), none], [.int s1, .ref s0], σ) q := Er.sT (c2 := (122, [some (.ref x0), some (.int x1), some (.long x2), none, some (.int x4), some (.int x5), some (.int x6), some (.int x7), some (.int x8), some (.long x9), none, some (.long x11), none], [.long x11, .int s1, .ref s0], σ)) r148_120 rfl rfl <| k
theorem b148_122 {d : Nat} {q : Rs} {x0 : Nat} {x1 : Int32} {x2 : Int64} {x4 : Int32} {x5 : Int32} {x6 : Int32} {x7 : Int32} {x8 : Int32} {x9 : Int64} {x11 : Int64} {s0 : Nat} {s1 : Int32} {s2 : Int64} {σ : St} {σ2 : St} {r : Int64} (h1 : s0 = 46 ∨ s0 = 47)
    (hy : Er d 149 (0, ent 149 [.ref s0, .int s1, .long s2], [], σ) (.inl (some (.long r)), σ2, 0))
    (k : Er (d + 1) 148 (125, [some (.ref x0), some (.int x1), some (.long x2), none, some (.int x4), some (.int x5), some (.int x6), some (.int x7), some (.int x8), some (.long x9), none, some (.long x11), none], [.long r], σ2) q) :
    Er (d + 1) 148 (122, [some (.ref x0), some (.int x1), some (.long x2), none, some (.int x4), some (.int x5), some (.int x6), some (.int x7), some (.int x8), some (.long x9), none, some (.long x11), none], [.long s2, .int s1, .ref s0], σ) q := (Er.call (vs := [.ref s0, .int s1, .long s2]) (rest := []) r148_122 rfl rfl (Nat.le_of_ble_eq_true rfl) (Nat.le_of_ble_eq_true rfl) (fun _ => ⟨_, _, rfl, h1⟩) hy k)
theorem b148_125 {d : Nat} {x0 : Nat} {x1 : Int32} {x2 : Int64} {x4 : Int32} {x5 : Int32} {x6 : Int32} {x7 : Int32} {x8 : Int32} {x9 : Int64} {x11 : Int64} {s0 : Int64} {σ : St}  :
    Er (d + 1) 148 (125, [some (.ref x0), some (.int x1), some (.long x2), none, some (.int x4), some (.int x5), some (.int x6), some (.int x7), some (.int x8), some (.long x9), none, some (.long x11), none], [.long s0], σ) (.inl (some (.long s0)), σ, 0) := (Er.ret r148_125 rfl ⟨_, rfl, rfl, rfl⟩)
/-! NumberModels$Format.signed(ZJ)J -/
theorem tab_149 : tab 149 = tb149_0 := rfl
theorem ch149_0 {j : Nat} {r : Row} (h : tb149_0[j]? = some r) : rowAt 149 r.1 = some r := row_mem 149 (by decide) (by rw [tab_149]; exact List.mem_of_getElem? h)
theorem r149_0 : rowAt 149 0 = some (ra 0 1 (.iload_n 1) 1 0 0) := ch149_0 (j := 0) rfl
theorem r149_1 : rowAt 149 1 = some (ra 1 4 (.ifCond .eq 12) 13 0 0) := ch149_0 (j := 1) rfl
theorem r149_4 : rowAt 149 4 = some (ra 4 5 (.lload_n 2) 2 0 0) := ch149_0 (j := 2) rfl
theorem r149_5 : rowAt 149 5 = some (r0 5 6 (.aload_n 0)) := ch149_0 (j := 3) rfl
theorem r149_6 : rowAt 149 6 = some (ra 6 9 (.getfield 48) 5 7 1178) := ch149_0 (j := 4) rfl
theorem r149_9 : rowAt 149 9 = some (r0 9 10 (.lor)) := ch149_0 (j := 5) rfl
theorem r149_10 : rowAt 149 10 = some (ra 10 13 (.goto 4) 14 0 0) := ch149_0 (j := 6) rfl
theorem r149_13 : rowAt 149 13 = some (ra 13 14 (.lload_n 2) 2 0 0) := ch149_0 (j := 7) rfl
theorem r149_14 : rowAt 149 14 = some (r0 14 15 (.lreturn)) := ch149_0 (j := 8) rfl
theorem b149_0 {d : Nat} {q : Rs} {x0 : Nat} {x1 : Int32} {x2 : Int64} {σ : St} 
    (kt : x1 = (0 : Int32) → Er (d + 1) 149 (13, [some (.ref x0), some (.int x1), some (.long x2), none], [], σ) q)
    (kf : ¬ x1 = (0 : Int32) → Er (d + 1) 149 (4, [some (.ref x0), some (.int x1), some (.long x2), none], [], σ) q) :
    Er (d + 1) 149 (0, [some (.ref x0), some (.int x1), some (.long x2), none], [], σ) q := Er.sT (c2 := (1, [some (.ref x0), some (.int x1), some (.long x2), none], [.int x1], σ)) r149_0 rfl rfl <| Er.sT (c2 := (brn .eq x1 (0 : Int32) 13 4, [some (.ref x0), some (.int x1), some (.long x2), none], [], σ)) r149_1 rfl rfl <| (br_eq kt kf)
theorem b149_4 {d : Nat} {q : Rs} {x0 : Nat} {x1 : Int32} {x2 : Int64} {σ : St} (h1 : x0 = 46 ∨ x0 = 47)
    (k : Er (d + 1) 149 (14, [some (.ref x0), some (.int x1), some (.long x2), none], [.long (x2 ||| (efl x0 5))], σ) q) :
    Er (d + 1) 149 (4, [some (.ref x0), some (.int x1), some (.long x2), none], [], σ) q := Er.sT (c2 := (5, [some (.ref x0), some (.int x1), some (.long x2), none], [.long x2], σ)) r149_4 rfl rfl <| Er.sT (c2 := (6, [some (.ref x0), some (.int x1), some (.long x2), none], [.ref x0, .long x2], σ)) r149_5 rfl rfl <| Er.st (P := (x0 = 46 ∨ x0 = 47)) (c2 := (9, [some (.ref x0), some (.int x1), some (.long x2), none], [.long (efl x0 5), .long x2], σ)) r149_6 rfl rfl h1 <| Er.sT (c2 := (10, [some (.ref x0), some (.int x1), some (.long x2), none], [.long (x2 ||| (efl x0 5))], σ)) r149_9 rfl rfl <| Er.sT (c2 := (14, [some (.ref x0), some (.int x1), some (.long x2), none], [.long (x2 ||| (efl x0 5))], σ)) r149_10 rfl rfl <| k
theorem b149_13 {d : Nat} {q : Rs} {x0 : Nat} {x1 : Int32} {x2 : Int64} {σ : St} 
    (k : Er (d + 1) 149 (14, [some (.ref x0), some (.int x1), some (.long x2), none], [.long x2], σ) q) :
    Er (d + 1) 149 (13, [some (.ref x0), some (.int x1), some (.long x2), none], [], σ) q := Er.sT (c2 := (14, [some (.ref x0), some (.int x1), some (.long x2), none], [.long x2], σ)) r149_13 rfl rfl <| k
theorem b149_14 {d : Nat} {x0 : Nat} {x1 : Int32} {x2 : Int64} {s0 : Int64} {σ : St}  :
    Er (d + 1) 149 (14, [some (.ref x0), some (.int x1), some (.long x2), none], [.long s0], σ) (.inl (some (.long s0)), σ, 0) := (Er.ret r149_14 rfl ⟨_, rfl, rfl, rfl⟩)
/-! NumberModels$Format.beyond(ZI)J -/
theorem tab_150 : tab 150 = tb150_0 := rfl
theorem ch150_0 {j : Nat} {r : Row} (h : tb150_0[j]? = some r) : rowAt 150 r.1 = some r := row_mem 150 (by decide) (by rw [tab_150]; exact List.mem_of_getElem? h)
theorem r150_0 : rowAt 150 0 = some (ra 0 1 (.iload_n 2) 2 0 0) := ch150_0 (j := 0) rfl
theorem r150_1 : rowAt 150 1 = some (1, 2, .iconst 3, 0, 0, 0, 3, 0) := ch150_0 (j := 1) rfl
theorem r150_2 : rowAt 150 2 = some (ra 2 5 (.if_icmp .eq 16) 18 0 0) := ch150_0 (j := 2) rfl
theorem r150_5 : rowAt 150 5 = some (ra 5 6 (.iload_n 2) 2 0 0) := ch150_0 (j := 3) rfl
theorem r150_6 : rowAt 150 6 = some (ra 6 7 (.iload_n 1) 1 0 0) := ch150_0 (j := 4) rfl
theorem r150_7 : rowAt 150 7 = some (ra 7 10 (.ifCond .eq 7) 14 0 0) := ch150_0 (j := 5) rfl
theorem r150_10 : rowAt 150 10 = some (10, 11, .iconst 1, 0, 0, 0, 1, 0) := ch150_0 (j := 6) rfl
theorem r150_11 : rowAt 150 11 = some (ra 11 14 (.goto 4) 15 0 0) := ch150_0 (j := 7) rfl
theorem r150_14 : rowAt 150 14 = some (14, 15, .iconst 2, 0, 0, 0, 2, 0) := ch150_0 (j := 8) rfl
theorem r150_15 : rowAt 150 15 = some (ra 15 18 (.if_icmp .ne 7) 22 0 0) := ch150_0 (j := 9) rfl
theorem r150_18 : rowAt 150 18 = some (18, 19, .iconst 1, 0, 0, 0, 1, 0) := ch150_0 (j := 10) rfl
theorem r150_19 : rowAt 150 19 = some (ra 19 22 (.goto 4) 23 0 0) := ch150_0 (j := 11) rfl
theorem r150_22 : rowAt 150 22 = some (r0 22 23 (.iconst 0)) := ch150_0 (j := 12) rfl
theorem r150_23 : rowAt 150 23 = some (ra 23 24 (.istore_n 3) 3 0 0) := ch150_0 (j := 13) rfl
theorem r150_24 : rowAt 150 24 = some (ra 24 25 (.iload_n 3) 3 0 0) := ch150_0 (j := 14) rfl
theorem r150_25 : rowAt 150 25 = some (ra 25 28 (.ifCond .eq 12) 37 0 0) := ch150_0 (j := 15) rfl
theorem r150_28 : rowAt 150 28 = some (r0 28 29 (.aload_n 0)) := ch150_0 (j := 16) rfl
theorem r150_29 : rowAt 150 29 = some (ra 29 32 (.getfield 45) 4 7 1179) := ch150_0 (j := 17) rfl
theorem r150_32 : rowAt 150 32 = some (32, 33, .lconst 1, 0, 0, 0, 0, 1) := ch150_0 (j := 18) rfl
theorem r150_33 : rowAt 150 33 = some (r0 33 34 (.lsub)) := ch150_0 (j := 19) rfl
theorem r150_34 : rowAt 150 34 = some (ra 34 37 (.goto 7) 41 0 0) := ch150_0 (j := 20) rfl
theorem r150_37 : rowAt 150 37 = some (r0 37 38 (.aload_n 0)) := ch150_0 (j := 21) rfl
theorem r150_38 : rowAt 150 38 = some (ra 38 41 (.getfield 45) 4 7 1179) := ch150_0 (j := 22) rfl
theorem r150_41 : rowAt 150 41 = some (r0 41 42 (.lreturn)) := ch150_0 (j := 23) rfl
theorem b150_0 {d : Nat} {q : Rs} {x0 : Nat} {x1 : Int32} {x2 : Int32} {σ : St} 
    (kt : x2 = (3 : Int32) → Er (d + 1) 150 (18, [some (.ref x0), some (.int x1), some (.int x2), none], [], σ) q)
    (kf : ¬ x2 = (3 : Int32) → Er (d + 1) 150 (5, [some (.ref x0), some (.int x1), some (.int x2), none], [], σ) q) :
    Er (d + 1) 150 (0, [some (.ref x0), some (.int x1), some (.int x2), none], [], σ) q := Er.sT (c2 := (1, [some (.ref x0), some (.int x1), some (.int x2), none], [.int x2], σ)) r150_0 rfl rfl <| Er.sT (c2 := (2, [some (.ref x0), some (.int x1), some (.int x2), none], [.int (3 : Int32), .int x2], σ)) r150_1 rfl rfl <| Er.sT (c2 := (brn .eq x2 (3 : Int32) 18 5, [some (.ref x0), some (.int x1), some (.int x2), none], [], σ)) r150_2 rfl rfl <| (br_eq kt kf)
theorem b150_5 {d : Nat} {q : Rs} {x0 : Nat} {x1 : Int32} {x2 : Int32} {σ : St} 
    (kt : x1 = (0 : Int32) → Er (d + 1) 150 (14, [some (.ref x0), some (.int x1), some (.int x2), none], [.int x2], σ) q)
    (kf : ¬ x1 = (0 : Int32) → Er (d + 1) 150 (10, [some (.ref x0), some (.int x1), some (.int x2), none], [.int x2], σ) q) :
    Er (d + 1) 150 (5, [some (.ref x0), some (.int x1), some (.int x2), none], [], σ) q := Er.sT (c2 := (6, [some (.ref x0), some (.int x1), some (.int x2), none], [.int x2], σ)) r150_5 rfl rfl <| Er.sT (c2 := (7, [some (.ref x0), some (.int x1), some (.int x2), none], [.int x1, .int x2], σ)) r150_6 rfl rfl <| Er.sT (c2 := (brn .eq x1 (0 : Int32) 14 10, [some (.ref x0), some (.int x1), some (.int x2), none], [.int x2], σ)) r150_7 rfl rfl <| (br_eq kt kf)
theorem b150_10 {d : Nat} {q : Rs} {x0 : Nat} {x1 : Int32} {x2 : Int32} {s0 : Int32} {σ : St} 
    (k : Er (d + 1) 150 (15, [some (.ref x0), some (.int x1), some (.int x2), none], [.int (1 : Int32), .int s0], σ) q) :
    Er (d + 1) 150 (10, [some (.ref x0), some (.int x1), some (.int x2), none], [.int s0], σ) q := Er.sT (c2 := (11, [some (.ref x0), some (.int x1), some (.int x2), none], [.int (1 : Int32), .int s0], σ)) r150_10 rfl rfl <| Er.sT (c2 := (15, [some (.ref x0), some (.int x1), some (.int x2), none], [.int (1 : Int32), .int s0], σ)) r150_11 rfl rfl <| k
theorem b150_14 {d : Nat} {q : Rs} {x0 : Nat} {x1 : Int32} {x2 : Int32} {s0 : Int32} {σ : St} 
    (k : Er (d + 1) 150 (15, [some (.ref x0), some (.int x1), some (.int x2), none], [.int (2 : Int32), .int s0], σ) q) :
    Er (d + 1) 150 (14, [some (.ref x0), some (.int x1), some (.int x2), none], [.int s0], σ) q := Er.sT (c2 := (15, [some (.ref x0), some (.int x1), some (.int x2), none], [.int (2 : Int32), .int s0], σ)) r150_14 rfl rfl <| k
theorem b150_15 {d : Nat} {q : Rs} {x0 : Nat} {x1 : Int32} {x2 : Int32} {s0 : Int32} {s1 : Int32} {σ : St} 
    (kt : ¬ s0 = s1 → Er (d + 1) 150 (22, [some (.ref x0), some (.int x1), some (.int x2), none], [], σ) q)
    (kf : s0 = s1 → Er (d + 1) 150 (18, [some (.ref x0), some (.int x1), some (.int x2), none], [], σ) q) :
    Er (d + 1) 150 (15, [some (.ref x0), some (.int x1), some (.int x2), none], [.int s1, .int s0], σ) q := Er.sT (c2 := (brn .ne s0 s1 22 18, [some (.ref x0), some (.int x1), some (.int x2), none], [], σ)) r150_15 rfl rfl <| (br_ne kt kf)
theorem b150_18 {d : Nat} {q : Rs} {x0 : Nat} {x1 : Int32} {x2 : Int32} {σ : St} 
    (k : Er (d + 1) 150 (23, [some (.ref x0), some (.int x1), some (.int x2), none], [.int (1 : Int32)], σ) q) :
    Er (d + 1) 150 (18, [some (.ref x0), some (.int x1), some (.int x2), none], [], σ) q := Er.sT (c2 := (19, [some (.ref x0), some (.int x1), some (.int x2), none], [.int (1 : Int32)], σ)) r150_18 rfl rfl <| Er.sT (c2 := (23, [some (.ref x0), some (.int x1), some (.int x2), none], [.int (1 : Int32)], σ)) r150_19 rfl rfl <| k
theorem b150_22 {d : Nat} {q : Rs} {x0 : Nat} {x1 : Int32} {x2 : Int32} {σ : St} 
    (k : Er (d + 1) 150 (23, [some (.ref x0), some (.int x1), some (.int x2), none], [.int (0 : Int32)], σ) q) :
    Er (d + 1) 150 (22, [some (.ref x0), some (.int x1), some (.int x2), none], [], σ) q := Er.sT (c2 := (23, [some (.ref x0), some (.int x1), some (.int x2), none], [.int (0 : Int32)], σ)) r150_22 rfl rfl <| k
theorem b150_23 {d : Nat} {q : Rs} {x0 : Nat} {x1 : Int32} {x2 : Int32} {s0 : Int32} {σ : St} 
    (kt : s0 = (0 : Int32) → Er (d + 1) 150 (37, [some (.ref x0), some (.int x1), some (.int x2), some (.int s0)], [], σ) q)
    (kf : ¬ s0 = (0 : Int32) → Er (d + 1) 150 (28, [some (.ref x0), some (.int x1), some (.int x2), some (.int s0)], [], σ) q) :
    Er (d + 1) 150 (23, [some (.ref x0), some (.int x1), some (.int x2), none], [.int s0], σ) q := Er.sT (c2 := (24, [some (.ref x0), some (.int x1), some (.int x2), some (.int s0)], [], σ)) r150_23 rfl rfl <| Er.sT (c2 := (25, [some (.ref x0), some (.int x1), some (.int x2), some (.int s0)], [.int s0], σ)) r150_24 rfl rfl <| Er.sT (c2 := (brn .eq s0 (0 : Int32) 37 28, [some (.ref x0), some (.int x1), some (.int x2), some (.int s0)], [], σ)) r150_25 rfl rfl <| (br_eq kt kf)
theorem b150_28 {d : Nat} {q : Rs} {x0 : Nat} {x1 : Int32} {x2 : Int32} {x3 : Int32} {σ : St} (h1 : x0 = 46 ∨ x0 = 47)
    (k : Er (d + 1) 150 (41, [some (.ref x0), some (.int x1), some (.int x2), some (.int x3)], [.long ((efl x0 4) - (1 : Int64))], σ) q) :
    Er (d + 1) 150 (28, [some (.ref x0), some (.int x1), some (.int x2), some (.int x3)], [], σ) q := Er.sT (c2 := (29, [some (.ref x0), some (.int x1), some (.int x2), some (.int x3)], [.ref x0], σ)) r150_28 rfl rfl <| Er.st (P := (x0 = 46 ∨ x0 = 47)) (c2 := (32, [some (.ref x0), some (.int x1), some (.int x2), some (.int x3)], [.long (efl x0 4)], σ)) r150_29 rfl rfl h1 <| Er.sT (c2 := (33, [some (.ref x0), some (.int x1), some (.int x2), some (.int x3)], [.long (1 : Int64), .long (efl x0 4)], σ)) r150_32 rfl rfl <| Er.sT (c2 := (34, [some (.ref x0), some (.int x1), some (.int x2), some (.int x3)], [.long ((efl x0 4) - (1 : Int64))], σ)) r150_33 rfl rfl <| Er.sT (c2 := (41, [some (.ref x0), some (.int x1), some (.int x2), some (.int x3)], [.long ((efl x0 4) - (1 : Int64))], σ)) r150_34 rfl rfl <| k
theorem b150_37 {d : Nat} {q : Rs} {x0 : Nat} {x1 : Int32} {x2 : Int32} {x3 : Int32} {σ : St} (h1 : x0 = 46 ∨ x0 = 47)
    (k : Er (d + 1) 150 (41, [some (.ref x0), some (.int x1), some (.int x2), some (.int x3)], [.long (efl x0 4)], σ) q) :
    Er (d + 1) 150 (37, [some (.ref x0), some (.int x1), some (.int x2), some (.int x3)], [], σ) q := Er.sT (c2 := (38, [some (.ref x0), some (.int x1), some (.int x2), some (.int x3)], [.ref x0], σ)) r150_37 rfl rfl <| Er.st (P := (x0 = 46 ∨ x0 = 47)) (c2 := (41, [some (.ref x0), some (.int x1), some (.int x2), some (.int x3)], [.long (efl x0 4)], σ)) r150_38 rfl rfl h1 <| k
theorem b150_41 {d : Nat} {x0 : Nat} {x1 : Int32} {x2 : Int32} {x3 : Int32} {s0 : Int64} {σ : St}  :
    Er (d + 1) 150 (41, [some (.ref x0), some (.int x1), some (.int x2), some (.int x3)], [.long s0], σ) (.inl (some (.long s0)), σ, 0) := (Er.ret r150_41 rfl ⟨_, rfl, rfl, rfl⟩)
/-! NumberModels$Format.dropLow(ZJIZI)J -/
theorem tab_151 : tab 151 = tb151_0 ++ tb151_1 := rfl
theorem ch151_0 {j : Nat} {r : Row} (h : tb151_0[j]? = some r) : rowAt 151 r.1 = some r := row_mem 151 (by decide) (by rw [tab_151]; exact (List.mem_append_left _ (List.mem_of_getElem? h)))
theorem ch151_1 {j : Nat} {r : Row} (h : tb151_1[j]? = some r) : rowAt 151 r.1 = some r := row_mem 151 (by decide) (by rw [tab_151]; exact (List.mem_append_right _ (List.mem_of_getElem? h)))
theorem r151_0 : rowAt 151 0 = some (ra 0 1 (.iload_n 3) 3 0 0) := ch151_0 (j := 0) rfl
theorem r151_1 : rowAt 151 1 = some (ra 1 4 (.ifCond .gt 8) 9 0 0) := ch151_0 (j := 1) rfl
theorem r151_4 : rowAt 151 4 = some (ra 4 5 (.lload_n 1) 1 0 0) := ch151_0 (j := 2) rfl
theorem r151_5 : rowAt 151 5 = some (ra 5 6 (.iload_n 3) 3 0 0) := ch151_0 (j := 3) rfl
theorem r151_6 : rowAt 151 6 = some (r0 6 7 (.ineg)) := ch151_0 (j := 4) rfl
theorem r151_7 : rowAt 151 7 = some (r0 7 8 (.lshl)) := ch151_0 (j := 5) rfl
theorem r151_8 : rowAt 151 8 = some (r0 8 9 (.lreturn)) := ch151_0 (j := 6) rfl
theorem r151_9 : rowAt 151 9 = some (ra 9 10 (.iload_n 3) 3 0 0) := ch151_0 (j := 7) rfl
theorem r151_10 : rowAt 151 10 = some (10, 12, .bipush 62, 0, 0, 0, 62, 0) := ch151_0 (j := 8) rfl
theorem r151_12 : rowAt 151 12 = some (ra 12 15 (.invokestatic 84) 990 2 769) := ch151_0 (j := 9) rfl
theorem r151_15 : rowAt 151 15 = some (ra 15 17 (.istore 6) 6 0 0) := ch151_0 (j := 10) rfl
theorem r151_17 : rowAt 151 17 = some (ra 17 18 (.lload_n 1) 1 0 0) := ch151_0 (j := 11) rfl
theorem r151_18 : rowAt 151 18 = some (ra 18 20 (.iload 6) 6 0 0) := ch151_0 (j := 12) rfl
theorem r151_20 : rowAt 151 20 = some (r0 20 21 (.lushr)) := ch151_0 (j := 13) rfl
theorem r151_21 : rowAt 151 21 = some (ra 21 23 (.lstore 7) 7 0 0) := ch151_0 (j := 14) rfl
theorem r151_23 : rowAt 151 23 = some (23, 24, .lconst 1, 0, 0, 0, 0, 1) := ch151_0 (j := 15) rfl
theorem r151_24 : rowAt 151 24 = some (ra 24 26 (.iload 6) 6 0 0) := ch151_0 (j := 16) rfl
theorem r151_26 : rowAt 151 26 = some (26, 27, .iconst 1, 0, 0, 0, 1, 0) := ch151_0 (j := 17) rfl
theorem r151_27 : rowAt 151 27 = some (r0 27 28 (.isub)) := ch151_0 (j := 18) rfl
theorem r151_28 : rowAt 151 28 = some (r0 28 29 (.lshl)) := ch151_0 (j := 19) rfl
theorem r151_29 : rowAt 151 29 = some (ra 29 31 (.lstore 9) 9 0 0) := ch151_0 (j := 20) rfl
theorem r151_31 : rowAt 151 31 = some (ra 31 32 (.lload_n 1) 1 0 0) := ch151_0 (j := 21) rfl
theorem r151_32 : rowAt 151 32 = some (ra 32 34 (.lload 9) 9 0 0) := ch151_0 (j := 22) rfl
theorem r151_34 : rowAt 151 34 = some (34, 35, .iconst 1, 0, 0, 0, 1, 0) := ch151_0 (j := 23) rfl
theorem r151_35 : rowAt 151 35 = some (r0 35 36 (.lshl)) := ch151_0 (j := 24) rfl
theorem r151_36 : rowAt 151 36 = some (36, 37, .lconst 1, 0, 0, 0, 0, 1) := ch151_0 (j := 25) rfl
theorem r151_37 : rowAt 151 37 = some (r0 37 38 (.lsub)) := ch151_0 (j := 26) rfl
theorem r151_38 : rowAt 151 38 = some (r0 38 39 (.land)) := ch151_0 (j := 27) rfl
theorem r151_39 : rowAt 151 39 = some (ra 39 41 (.lstore 11) 11 0 0) := ch151_0 (j := 28) rfl
theorem r151_41 : rowAt 151 41 = some (ra 41 43 (.iload 5) 5 0 0) := ch151_0 (j := 29) rfl
theorem r151_43 : rowAt 151 43 = some (ra 43 46 (.ifCond .ne 43) 86 0 0) := ch151_0 (j := 30) rfl
theorem r151_46 : rowAt 151 46 = some (ra 46 48 (.lload 11) 11 0 0) := ch151_0 (j := 31) rfl
theorem r151_48 : rowAt 151 48 = some (ra 48 50 (.lload 9) 9 0 0) := ch151_0 (j := 32) rfl
theorem r151_50 : rowAt 151 50 = some (r0 50 51 (.lcmp)) := ch151_0 (j := 33) rfl
theorem r151_51 : rowAt 151 51 = some (ra 51 54 (.ifCond .gt 25) 76 0 0) := ch151_0 (j := 34) rfl
theorem r151_54 : rowAt 151 54 = some (ra 54 56 (.lload 11) 11 0 0) := ch151_0 (j := 35) rfl
theorem r151_56 : rowAt 151 56 = some (ra 56 58 (.lload 9) 9 0 0) := ch151_0 (j := 36) rfl
theorem r151_58 : rowAt 151 58 = some (r0 58 59 (.lcmp)) := ch151_0 (j := 37) rfl
theorem r151_59 : rowAt 151 59 = some (ra 59 62 (.ifCond .ne 21) 80 0 0) := ch151_0 (j := 38) rfl
theorem r151_62 : rowAt 151 62 = some (ra 62 64 (.iload 4) 4 0 0) := ch151_0 (j := 39) rfl
theorem r151_64 : rowAt 151 64 = some (ra 64 67 (.ifCond .ne 12) 76 0 0) := ch151_0 (j := 40) rfl
theorem r151_67 : rowAt 151 67 = some (ra 67 69 (.lload 7) 7 0 0) := ch151_0 (j := 41) rfl
theorem r151_69 : rowAt 151 69 = some (69, 70, .lconst 1, 0, 0, 0, 0, 1) := ch151_0 (j := 42) rfl
theorem r151_70 : rowAt 151 70 = some (r0 70 71 (.land)) := ch151_0 (j := 43) rfl
theorem r151_71 : rowAt 151 71 = some (r0 71 72 (.lconst 0)) := ch151_0 (j := 44) rfl
theorem r151_72 : rowAt 151 72 = some (r0 72 73 (.lcmp)) := ch151_0 (j := 45) rfl
theorem r151_73 : rowAt 151 73 = some (ra 73 76 (.ifCond .eq 7) 80 0 0) := ch151_0 (j := 46) rfl
theorem r151_76 : rowAt 151 76 = some (76, 77, .iconst 1, 0, 0, 0, 1, 0) := ch151_0 (j := 47) rfl
theorem r151_77 : rowAt 151 77 = some (ra 77 80 (.goto 4) 81 0 0) := ch151_0 (j := 48) rfl
theorem r151_80 : rowAt 151 80 = some (r0 80 81 (.iconst 0)) := ch151_0 (j := 49) rfl
theorem r151_81 : rowAt 151 81 = some (ra 81 83 (.istore 13) 13 0 0) := ch151_0 (j := 50) rfl
theorem r151_83 : rowAt 151 83 = some (ra 83 86 (.goto 36) 119 0 0) := ch151_0 (j := 51) rfl
theorem r151_86 : rowAt 151 86 = some (ra 86 88 (.lload 11) 11 0 0) := ch151_0 (j := 52) rfl
theorem r151_88 : rowAt 151 88 = some (r0 88 89 (.lconst 0)) := ch151_0 (j := 53) rfl
theorem r151_89 : rowAt 151 89 = some (r0 89 90 (.lcmp)) := ch151_0 (j := 54) rfl
theorem r151_90 : rowAt 151 90 = some (ra 90 93 (.ifCond .ne 8) 98 0 0) := ch151_0 (j := 55) rfl
theorem r151_93 : rowAt 151 93 = some (ra 93 95 (.iload 4) 4 0 0) := ch151_0 (j := 56) rfl
theorem r151_95 : rowAt 151 95 = some (ra 95 98 (.ifCond .eq 21) 116 0 0) := ch151_0 (j := 57) rfl
theorem r151_98 : rowAt 151 98 = some (ra 98 100 (.iload 5) 5 0 0) := ch151_0 (j := 58) rfl
theorem r151_100 : rowAt 151 100 = some (r0 100 101 (.iload_n 0)) := ch151_0 (j := 59) rfl
theorem r151_101 : rowAt 151 101 = some (ra 101 104 (.ifCond .eq 7) 108 0 0) := ch151_1 (j := 0) rfl
theorem r151_104 : rowAt 151 104 = some (104, 105, .iconst 2, 0, 0, 0, 2, 0) := ch151_1 (j := 1) rfl
theorem r151_105 : rowAt 151 105 = some (ra 105 108 (.goto 4) 109 0 0) := ch151_1 (j := 2) rfl
theorem r151_108 : rowAt 151 108 = some (108, 109, .iconst 1, 0, 0, 0, 1, 0) := ch151_1 (j := 3) rfl
theorem r151_109 : rowAt 151 109 = some (ra 109 112 (.if_icmp .ne 7) 116 0 0) := ch151_1 (j := 4) rfl
theorem r151_112 : rowAt 151 112 = some (112, 113, .iconst 1, 0, 0, 0, 1, 0) := ch151_1 (j := 5) rfl
theorem r151_113 : rowAt 151 113 = some (ra 113 116 (.goto 4) 117 0 0) := ch151_1 (j := 6) rfl
theorem r151_116 : rowAt 151 116 = some (r0 116 117 (.iconst 0)) := ch151_1 (j := 7) rfl
theorem r151_117 : rowAt 151 117 = some (ra 117 119 (.istore 13) 13 0 0) := ch151_1 (j := 8) rfl
theorem r151_119 : rowAt 151 119 = some (ra 119 121 (.iload 13) 13 0 0) := ch151_1 (j := 9) rfl
theorem r151_121 : rowAt 151 121 = some (ra 121 124 (.ifCond .eq 10) 131 0 0) := ch151_1 (j := 10) rfl
theorem r151_124 : rowAt 151 124 = some (ra 124 126 (.lload 7) 7 0 0) := ch151_1 (j := 11) rfl
theorem r151_126 : rowAt 151 126 = some (126, 127, .lconst 1, 0, 0, 0, 0, 1) := ch151_1 (j := 12) rfl
theorem r151_127 : rowAt 151 127 = some (r0 127 128 (.ladd)) := ch151_1 (j := 13) rfl
theorem r151_128 : rowAt 151 128 = some (ra 128 131 (.goto 5) 133 0 0) := ch151_1 (j := 14) rfl
theorem r151_131 : rowAt 151 131 = some (ra 131 133 (.lload 7) 7 0 0) := ch151_1 (j := 15) rfl
theorem r151_133 : rowAt 151 133 = some (r0 133 134 (.lreturn)) := ch151_1 (j := 16) rfl
theorem b151_0 {d : Nat} {q : Rs} {x0 : Int32} {x1 : Int64} {x3 : Int32} {x4 : Int32} {x5 : Int32} {σ : St} 
    (kt : (0 : Int32) < x3 → Er (d + 1) 151 (9, [some (.int x0), some (.long x1), none, some (.int x3), some (.int x4), some (.int x5), none, none, none, none, none, none, none, none], [], σ) q)
    (kf : ¬ (0 : Int32) < x3 → Er (d + 1) 151 (4, [some (.int x0), some (.long x1), none, some (.int x3), some (.int x4), some (.int x5), none, none, none, none, none, none, none, none], [], σ) q) :
    Er (d + 1) 151 (0, [some (.int x0), some (.long x1), none, some (.int x3), some (.int x4), some (.int x5), none, none, none, none, none, none, none, none], [], σ) q := Er.sT (c2 := (1, [some (.int x0), some (.long x1), none, some (.int x3), some (.int x4), some (.int x5), none, none, none, none, none, none, none, none], [.int x3], σ)) r151_0 rfl rfl <| Er.sT (c2 := (brn .gt x3 (0 : Int32) 9 4, [some (.int x0), some (.long x1), none, some (.int x3), some (.int x4), some (.int x5), none, none, none, none, none, none, none, none], [], σ)) r151_1 rfl rfl <| (br_gt kt kf)
theorem b151_4 {d : Nat} {x0 : Int32} {x1 : Int64} {x3 : Int32} {x4 : Int32} {x5 : Int32} {σ : St}  :
    Er (d + 1) 151 (4, [some (.int x0), some (.long x1), none, some (.int x3), some (.int x4), some (.int x5), none, none, none, none, none, none, none, none], [], σ) (.inl (some (.long (x1 <<< ((-x3).toInt64 &&& 63)))), σ, 0) := Er.sT (c2 := (5, [some (.int x0), some (.long x1), none, some (.int x3), some (.int x4), some (.int x5), none, none, none, none, none, none, none, none], [.long x1], σ)) r151_4 rfl rfl <| Er.sT (c2 := (6, [some (.int x0), some (.long x1), none, some (.int x3), some (.int x4), some (.int x5), none, none, none, none, none, none, none, none], [.int x3, .long x1], σ)) r151_5 rfl rfl <| Er.sT (c2 := (7, [some (.int x0), some (.long x1), none, some (.int x3), some (.int x4), some (.int x5), none, none, none, none, none, none, none, none], [.int (-x3), .long x1], σ)) r151_6 rfl rfl <| Er.sT (c2 := (8, [some (.int x0), some (.long x1), none, some (.int x3), some (.int x4), some (.int x5), none, none, none, none, none, none, none, none], [.long (x1 <<< ((-x3).toInt64 &&& 63))], σ)) r151_7 rfl rfl <| (Er.ret r151_8 rfl ⟨_, rfl, rfl, rfl⟩)
theorem b151_9 {d : Nat} {q : Rs} {x0 : Int32} {x1 : Int64} {x3 : Int32} {x4 : Int32} {x5 : Int32} {σ : St} 
    (kt : ¬ x5 = (0 : Int32) → Er (d + 1) 151 (86, [some (.int x0), some (.long x1), none, some (.int x3), some (.int x4), some (.int x5), some (.int (if (62 : Int32) < x3 then (62 : Int32) else x3)), some (.long ((x1.toUInt64 >>> ((if (62 : Int32) < x3 then (62 : Int32) else x3).toInt64.toUInt64 &&& Int64.toUInt64 63)).toInt64)), none, some (.long ((1 : Int64) <<< (((if (62 : Int32) < x3 then (62 : Int32) else x3) - (1 : Int32)).toInt64 &&& 63))), none, some (.long (x1 &&& ((((1 : Int64) <<< (((if (62 : Int32) < x3 then (62 : Int32) else x3) - (1 : Int32)).toInt64 &&& 63)) <<< ((1 : Int32).toInt64 &&& 63)) - (1 : Int64)))), none, none], [], σ) q)
    (kf : x5 = (0 : Int32) → Er (d + 1) 151 (46, [some (.int x0), some (.long x1), none, some (.int x3), some (.int x4), some (.int x5), some (.int (if (62 : Int32) < x3 then (62 : Int32) else x3)), some (.long ((x1.toUInt64 >>> ((if (62 : Int32) < x3 then (62 : Int32) else x3).toInt64.toUInt64 &&& Int64.toUInt64 63)).toInt64)), none, some (.long ((1 : Int64) <<< (((if (62 : Int32) < x3 then (62 : Int32) else x3) - (1 : Int32)).toInt64 &&& 63))), none, some (.long (x1 &&& ((((1 : Int64) <<< (((if (62 : Int32) < x3 then (62 : Int32) else x3) - (1 : Int32)).toInt64 &&& 63)) <<< ((1 : Int32).toInt64 &&& 63)) - (1 : Int64)))), none, none], [], σ) q) :
    Er (d + 1) 151 (9, [some (.int x0), some (.long x1), none, some (.int x3), some (.int x4), some (.int x5), none, none, none, none, none, none, none, none], [], σ) q := Er.sT (c2 := (10, [some (.int x0), some (.long x1), none, some (.int x3), some (.int x4), some (.int x5), none, none, none, none, none, none, none, none], [.int x3], σ)) r151_9 rfl rfl <| Er.sT (c2 := (12, [some (.int x0), some (.long x1), none, some (.int x3), some (.int x4), some (.int x5), none, none, none, none, none, none, none, none], [.int (62 : Int32), .int x3], σ)) r151_10 rfl rfl <| Er.st (P := ((([] : List Value).map fun v => v.category).sum ≤ 8)) (c2 := (15, [some (.int x0), some (.long x1), none, some (.int x3), some (.int x4), some (.int x5), none, none, none, none, none, none, none, none], [.int (if (62 : Int32) < x3 then (62 : Int32) else x3)], σ)) r151_12 rfl rfl (Nat.le_of_ble_eq_true rfl) <| Er.sT (c2 := (17, [some (.int x0), some (.long x1), none, some (.int x3), some (.int x4), some (.int x5), some (.int (if (62 : Int32) < x3 then (62 : Int32) else x3)), none, none, none, none, none, none, none], [], σ)) r151_15 rfl rfl <| Er.sT (c2 := (18, [some (.int x0), some (.long x1), none, some (.int x3), some (.int x4), some (.int x5), some (.int (if (62 : Int32) < x3 then (62 : Int32) else x3)), none, none, none, none, none, none, none], [.long x1], σ)) r151_17 rfl rfl <| Er.sT (c2 := (20, [some (.int x0), some (.long x1), none, some (.int x3), some (.int x4), some (.int x5), some (.int (if (62 : Int32) < x3 then (62 : Int32) else x3)), none, none, none, none, none, none, none], [.int (if (62 : Int32) < x3 then (62 : Int32) else x3), .long x1], σ)) r151_18 rfl rfl <| Er.sT (c2 := (21, [some (.int x0), some (.long x1), none, some (.int x3), some (.int x4), some (.int x5), some (.int (if (62 : Int32) < x3 then (62 : Int32) else x3)), none, none, none, none, none, none, none], [.long ((x1.toUInt64 >>> ((if (62 : Int32) < x3 then (62 : Int32) else x3).toInt64.toUInt64 &&& Int64.toUInt64 63)).toInt64)], σ)) r151_20 rfl rfl <| Er.sT (c2 := (23, [some (.int x0), some (.long x1), none, some (.int x3), some (.int x4), some (.int x5), some (.int (if (62 : Int32) < x3 then (62 : Int32) else x3)), some (.long ((x1.toUInt64 >>> ((if (62 : Int32) < x3 then (62 : Int32) else x3).toInt64.toUInt64 &&& Int64.toUInt64 63)).toInt64)), none, none, none, none, none, none], [], σ)) r151_21 rfl rfl <| Er.sT (c2 := (24, [some (.int x0), some (.long x1), none, some (.int x3), some (.int x4), some (.int x5), some (.int (if (62 : Int32) < x3 then (62 : Int32) else x3)), some (.long ((x1.toUInt64 >>> ((if (62 : Int32) < x3 then (62 : Int32) else x3).toInt64.toUInt64 &&& Int64.toUInt64 63)).toInt64)), none, none, none, none, none, none], [.long (1 : Int64)], σ)) r151_23 rfl rfl <| Er.sT (c2 := (26, [some (.int x0), some (.long x1), none, some (.int x3), some (.int x4), some (.int x5), some (.int (if (62 : Int32) < x3 then (62 : Int32) else x3)), some (.long ((x1.toUInt64 >>> ((if (62 : Int32) < x3 then (62 : Int32) else x3).toInt64.toUInt64 &&& Int64.toUInt64 63)).toInt64)), none, none, none, none, none, none], [.int (if (62 : Int32) < x3 then (62 : Int32) else x3), .long (1 : Int64)], σ)) r151_24 rfl rfl <| Er.sT (c2 := (27, [some (.int x0), some (.long x1), none, some (.int x3), some (.int x4), some (.int x5), some (.int (if (62 : Int32) < x3 then (62 : Int32) else x3)), some (.long ((x1.toUInt64 >>> ((if (62 : Int32) < x3 then (62 : Int32) else x3).toInt64.toUInt64 &&& Int64.toUInt64 63)).toInt64)), none, none, none, none, none, none], [.int (1 : Int32), .int (if (62 : Int32) < x3 then (62 : Int32) else x3), .long (1 : Int64)], σ)) r151_26 rfl rfl <| Er.sT (c2 := (28, [some (.int x0), some (.long x1), none, some (.int x3), some (.int x4), some (.int x5), some (.int (if (62 : Int32) < x3 then (62 : Int32) else x3)), some (.long ((x1.toUInt64 >>> ((if (62 : Int32) < x3 then (62 : Int32) else x3).toInt64.toUInt64 &&& Int64.toUInt64 63)).toInt64)), none, none, none, none, none, none], [.int ((if (62 : Int32) < x3 then (62 : Int32) else x3) - (1 : Int32)), .long (1 : Int64)], σ)) r151_27 rfl rfl <| Er.sT (c2 := (29, [some (.int x0), some (.long x1), none, some (.int x3), some (.int x4), some (.int x5), some (.int (if (62 : Int32) < x3 then (62 : Int32) else x3)), some (.long ((x1.toUInt64 >>> ((if (62 : Int32) < x3 then (62 : Int32) else x3).toInt64.toUInt64 &&& Int64.toUInt64 63)).toInt64)), none, none, none, none, none, none], [.long ((1 : Int64) <<< (((if (62 : Int32) < x3 then (62 : Int32) else x3) - (1 : Int32)).toInt64 &&& 63))], σ)) r151_28 rfl rfl <| Er.sT (c2 := (31, [some (.int x0), some (.long x1), none, some (.int x3), some (.int x4), some (.int x5), some (.int (if (62 : Int32) < x3 then (62 : Int32) else x3)), some (.long ((x1.toUInt64 >>> ((if (62 : Int32) < x3 then (62 : Int32) else x3).toInt64.toUInt64 &&& Int64.toUInt64 63)).toInt64)), none, some (.long ((1 : Int64) <<< (((if (62 : Int32) < x3 then (62 : Int32) else x3) - (1 : Int32)).toInt64 &&& 63))), none, none, none, none], [], σ)) r151_29 rfl rfl <| Er.sT (c2 := (32, [some (.int x0), some (.long x1), none, some (.int x3), some (.int x4), some (.int x5), some (.int (if (62 : Int32) < x3 then (62 : Int32) else x3)), some (.long ((x1.toUInt64 >>> ((if (62 : Int32) < x3 then (62 : Int32) else x3).toInt64.toUInt64 &&& Int64.toUInt64 63)).toInt64)), none, some (.long ((1 : Int64) <<< (((if (62 : Int32) < x3 then (62 : Int32) else x3) - (1 : Int32)).toInt64 &&& 63))), none, none, none, none], [.long x1], σ)) r151_31 rfl rfl <| Er.sT (c2 := (34, [some (.int x0), some (.long x1), none, some (.int x3), some (.int x4), some (.int x5), some (.int (if (62 : Int32) < x3 then (62 : Int32) else x3)), some (.long ((x1.toUInt64 >>> ((if (62 : Int32) < x3 then (62 : Int32) else x3).toInt64.toUInt64 &&& Int64.toUInt64 63)).toInt64)), none, some (.long ((1 : Int64) <<< (((if (62 : Int32) < x3 then (62 : Int32) else x3) - (1 : Int32)).toInt64 &&& 63))), none, none, none, none], [.long ((1 : Int64) <<< (((if (62 : Int32) < x3 then (62 : Int32) else x3) - (1 : Int32)).toInt64 &&& 63)), .long x1], σ)) r151_32 rfl rfl <| Er.sT (c2 := (35, [some (.int x0), some (.long x1), none, some (.int x3), some (.int x4), some (.int x5), some (.int (if (62 : Int32) < x3 then (62 : Int32) else x3)), some (.long ((x1.toUInt64 >>> ((if (62 : Int32) < x3 then (62 : Int32) else x3).toInt64.toUInt64 &&& Int64.toUInt64 63)).toInt64)), none, some (.long ((1 : Int64) <<< (((if (62 : Int32) < x3 then (62 : Int32) else x3) - (1 : Int32)).toInt64 &&& 63))), none, none, none, none], [.int (1 : Int32), .long ((1 : Int64) <<< (((if (62 : Int32) < x3 then (62 : Int32) else x3) - (1 : Int32)).toInt64 &&& 63)), .long x1], σ)) r151_34 rfl rfl <| Er.sT (c2 := (36, [some (.int x0), some (.long x1), none, some (.int x3), some (.int x4), some (.int x5), some (.int (if (62 : Int32) < x3 then (62 : Int32) else x3)), some (.long ((x1.toUInt64 >>> ((if (62 : Int32) < x3 then (62 : Int32) else x3).toInt64.toUInt64 &&& Int64.toUInt64 63)).toInt64)), none, some (.long ((1 : Int64) <<< (((if (62 : Int32) < x3 then (62 : Int32) else x3) - (1 : Int32)).toInt64 &&& 63))), none, none, none, none], [.long (((1 : Int64) <<< (((if (62 : Int32) < x3 then (62 : Int32) else x3) - (1 : Int32)).toInt64 &&& 63)) <<< ((1 : Int32).toInt64 &&& 63)), .long x1], σ)) r151_35 rfl rfl <| Er.sT (c2 := (37, [some (.int x0), some (.long x1), none, some (.int x3), some (.int x4), some (.int x5), some (.int (if (62 : Int32) < x3 then (62 : Int32) else x3)), some (.long ((x1.toUInt64 >>> ((if (62 : Int32) < x3 then (62 : Int32) else x3).toInt64.toUInt64 &&& Int64.toUInt64 63)).toInt64)), none, some (.long ((1 : Int64) <<< (((if (62 : Int32) < x3 then (62 : Int32) else x3) - (1 : Int32)).toInt64 &&& 63))), none, none, none, none], [.long (1 : Int64), .long (((1 : Int64) <<< (((if (62 : Int32) < x3 then (62 : Int32) else x3) - (1 : Int32)).toInt64 &&& 63)) <<< ((1 : Int32).toInt64 &&& 63)), .long x1], σ)) r151_36 rfl rfl <| Er.sT (c2 := (38, [some (.int x0), some (.long x1), none, some (.int x3), some (.int x4), some (.int x5), some (.int (if (62 : Int32) < x3 then (62 : Int32) else x3)), some (.long ((x1.toUInt64 >>> ((if (62 : Int32) < x3 then (62 : Int32) else x3).toInt64.toUInt64 &&& Int64.toUInt64 63)).toInt64)), none, some (.long ((1 : Int64) <<< (((if (62 : Int32) < x3 then (62 : Int32) else x3) - (1 : Int32)).toInt64 &&& 63))), none, none, none, none], [.long ((((1 : Int64) <<< (((if (62 : Int32) < x3 then (62 : Int32) else x3) - (1 : Int32)).toInt64 &&& 63)) <<< ((1 : Int32).toInt64 &&& 63)) - (1 : Int64)), .long x1], σ)) r151_37 rfl rfl <| Er.sT (c2 := (39, [some (.int x0), some (.long x1), none, some (.int x3), some (.int x4), some (.int x5), some (.int (if (62 : Int32) < x3 then (62 : Int32) else x3)), some (.long ((x1.toUInt64 >>> ((if (62 : Int32) < x3 then (62 : Int32) else x3).toInt64.toUInt64 &&& Int64.toUInt64 63)).toInt64)), none, some (.long ((1 : Int64) <<< (((if (62 : Int32) < x3 then (62 : Int32) else x3) - (1 : Int32)).toInt64 &&& 63))), none, none, none, none], [.long (x1 &&& ((((1 : Int64) <<< (((if (62 : Int32) < x3 then (62 : Int32) else x3) - (1 : Int32)).toInt64 &&& 63)) <<< ((1 : Int32).toInt64 &&& 63)) - (1 : Int64)))], σ)) r151_38 rfl rfl <| Er.sT (c2 := (41, [some (.int x0), some (.long x1), none, some (.int x3), some (.int x4), some (.int x5), some (.int (if (62 : Int32) < x3 then (62 : Int32) else x3)), some (.long ((x1.toUInt64 >>> ((if (62 : Int32) < x3 then (62 : Int32) else x3).toInt64.toUInt64 &&& Int64.toUInt64 63)).toInt64)), none, some (.long ((1 : Int64) <<< (((if (62 : Int32) < x3 then (62 : Int32) else x3) - (1 : Int32)).toInt64 &&& 63))), none, some (.long (x1 &&& ((((1 : Int64) <<< (((if (62 : Int32) < x3 then (62 : Int32) else x3) - (1 : Int32)).toInt64 &&& 63)) <<< ((1 : Int32).toInt64 &&& 63)) - (1 : Int64)))), none, none], [], σ)) r151_39 rfl rfl <| Er.sT (c2 := (43, [some (.int x0), some (.long x1), none, some (.int x3), some (.int x4), some (.int x5), some (.int (if (62 : Int32) < x3 then (62 : Int32) else x3)), some (.long ((x1.toUInt64 >>> ((if (62 : Int32) < x3 then (62 : Int32) else x3).toInt64.toUInt64 &&& Int64.toUInt64 63)).toInt64)), none, some (.long ((1 : Int64) <<< (((if (62 : Int32) < x3 then (62 : Int32) else x3) - (1 : Int32)).toInt64 &&& 63))), none, some (.long (x1 &&& ((((1 : Int64) <<< (((if (62 : Int32) < x3 then (62 : Int32) else x3) - (1 : Int32)).toInt64 &&& 63)) <<< ((1 : Int32).toInt64 &&& 63)) - (1 : Int64)))), none, none], [.int x5], σ)) r151_41 rfl rfl <| Er.sT (c2 := (brn .ne x5 (0 : Int32) 86 46, [some (.int x0), some (.long x1), none, some (.int x3), some (.int x4), some (.int x5), some (.int (if (62 : Int32) < x3 then (62 : Int32) else x3)), some (.long ((x1.toUInt64 >>> ((if (62 : Int32) < x3 then (62 : Int32) else x3).toInt64.toUInt64 &&& Int64.toUInt64 63)).toInt64)), none, some (.long ((1 : Int64) <<< (((if (62 : Int32) < x3 then (62 : Int32) else x3) - (1 : Int32)).toInt64 &&& 63))), none, some (.long (x1 &&& ((((1 : Int64) <<< (((if (62 : Int32) < x3 then (62 : Int32) else x3) - (1 : Int32)).toInt64 &&& 63)) <<< ((1 : Int32).toInt64 &&& 63)) - (1 : Int64)))), none, none], [], σ)) r151_43 rfl rfl <| (br_ne kt kf)
theorem b151_46 {d : Nat} {q : Rs} {x0 : Int32} {x1 : Int64} {x3 : Int32} {x4 : Int32} {x5 : Int32} {x6 : Int32} {x7 : Int64} {x9 : Int64} {x11 : Int64} {σ : St} 
    (kt : x9 < x11 → Er (d + 1) 151 (76, [some (.int x0), some (.long x1), none, some (.int x3), some (.int x4), some (.int x5), some (.int x6), some (.long x7), none, some (.long x9), none, some (.long x11), none, none], [], σ) q)
    (kf : ¬ x9 < x11 → Er (d + 1) 151 (54, [some (.int x0), some (.long x1), none, some (.int x3), some (.int x4), some (.int x5), some (.int x6), some (.long x7), none, some (.long x9), none, some (.long x11), none, none], [], σ) q) :
    Er (d + 1) 151 (46, [some (.int x0), some (.long x1), none, some (.int x3), some (.int x4), some (.int x5), some (.int x6), some (.long x7), none, some (.long x9), none, some (.long x11), none, none], [], σ) q := Er.sT (c2 := (48, [some (.int x0), some (.long x1), none, some (.int x3), some (.int x4), some (.int x5), some (.int x6), some (.long x7), none, some (.long x9), none, some (.long x11), none, none], [.long x11], σ)) r151_46 rfl rfl <| Er.sT (c2 := (50, [some (.int x0), some (.long x1), none, some (.int x3), some (.int x4), some (.int x5), some (.int x6), some (.long x7), none, some (.long x9), none, some (.long x11), none, none], [.long x9, .long x11], σ)) r151_48 rfl rfl <| Er.sT (c2 := (51, [some (.int x0), some (.long x1), none, some (.int x3), some (.int x4), some (.int x5), some (.int x6), some (.long x7), none, some (.long x9), none, some (.long x11), none, none], [.int (lg_cmp x11 x9)], σ)) r151_50 rfl rfl <| Er.sT (c2 := (brn .gt (lg_cmp x11 x9) (0 : Int32) 76 54, [some (.int x0), some (.long x1), none, some (.int x3), some (.int x4), some (.int x5), some (.int x6), some (.long x7), none, some (.long x9), none, some (.long x11), none, none], [], σ)) r151_51 rfl rfl <| (bl_gt kt kf)
theorem b151_54 {d : Nat} {q : Rs} {x0 : Int32} {x1 : Int64} {x3 : Int32} {x4 : Int32} {x5 : Int32} {x6 : Int32} {x7 : Int64} {x9 : Int64} {x11 : Int64} {σ : St} 
    (kt : ¬ x11 = x9 → Er (d + 1) 151 (80, [some (.int x0), some (.long x1), none, some (.int x3), some (.int x4), some (.int x5), some (.int x6), some (.long x7), none, some (.long x9), none, some (.long x11), none, none], [], σ) q)
    (kf : x11 = x9 → Er (d + 1) 151 (62, [some (.int x0), some (.long x1), none, some (.int x3), some (.int x4), some (.int x5), some (.int x6), some (.long x7), none, some (.long x9), none, some (.long x11), none, none], [], σ) q) :
    Er (d + 1) 151 (54, [some (.int x0), some (.long x1), none, some (.int x3), some (.int x4), some (.int x5), some (.int x6), some (.long x7), none, some (.long x9), none, some (.long x11), none, none], [], σ) q := Er.sT (c2 := (56, [some (.int x0), some (.long x1), none, some (.int x3), some (.int x4), some (.int x5), some (.int x6), some (.long x7), none, some (.long x9), none, some (.long x11), none, none], [.long x11], σ)) r151_54 rfl rfl <| Er.sT (c2 := (58, [some (.int x0), some (.long x1), none, some (.int x3), some (.int x4), some (.int x5), some (.int x6), some (.long x7), none, some (.long x9), none, some (.long x11), none, none], [.long x9, .long x11], σ)) r151_56 rfl rfl <| Er.sT (c2 := (59, [some (.int x0), some (.long x1), none, some (.int x3), some (.int x4), some (.int x5), some (.int x6), some (.long x7), none, some (.long x9), none, some (.long x11), none, none], [.int (lg_cmp x11 x9)], σ)) r151_58 rfl rfl <| Er.sT (c2 := (brn .ne (lg_cmp x11 x9) (0 : Int32) 80 62, [some (.int x0), some (.long x1), none, some (.int x3), some (.int x4), some (.int x5), some (.int x6), some (.long x7), none, some (.long x9), none, some (.long x11), none, none], [], σ)) r151_59 rfl rfl <| (bl_ne kt kf)
theorem b151_62 {d : Nat} {q : Rs} {x0 : Int32} {x1 : Int64} {x3 : Int32} {x4 : Int32} {x5 : Int32} {x6 : Int32} {x7 : Int64} {x9 : Int64} {x11 : Int64} {σ : St} 
    (kt : ¬ x4 = (0 : Int32) → Er (d + 1) 151 (76, [some (.int x0), some (.long x1), none, some (.int x3), some (.int x4), some (.int x5), some (.int x6), some (.long x7), none, some (.long x9), none, some (.long x11), none, none], [], σ) q)
    (kf : x4 = (0 : Int32) → Er (d + 1) 151 (67, [some (.int x0), some (.long x1), none, some (.int x3), some (.int x4), some (.int x5), some (.int x6), some (.long x7), none, some (.long x9), none, some (.long x11), none, none], [], σ) q) :
    Er (d + 1) 151 (62, [some (.int x0), some (.long x1), none, some (.int x3), some (.int x4), some (.int x5), some (.int x6), some (.long x7), none, some (.long x9), none, some (.long x11), none, none], [], σ) q := Er.sT (c2 := (64, [some (.int x0), some (.long x1), none, some (.int x3), some (.int x4), some (.int x5), some (.int x6), some (.long x7), none, some (.long x9), none, some (.long x11), none, none], [.int x4], σ)) r151_62 rfl rfl <| Er.sT (c2 := (brn .ne x4 (0 : Int32) 76 67, [some (.int x0), some (.long x1), none, some (.int x3), some (.int x4), some (.int x5), some (.int x6), some (.long x7), none, some (.long x9), none, some (.long x11), none, none], [], σ)) r151_64 rfl rfl <| (br_ne kt kf)
theorem b151_67 {d : Nat} {q : Rs} {x0 : Int32} {x1 : Int64} {x3 : Int32} {x4 : Int32} {x5 : Int32} {x6 : Int32} {x7 : Int64} {x9 : Int64} {x11 : Int64} {σ : St} 
    (kt : (x7 &&& (1 : Int64)) = (0 : Int64) → Er (d + 1) 151 (80, [some (.int x0), some (.long x1), none, some (.int x3), some (.int x4), some (.int x5), some (.int x6), some (.long x7), none, some (.long x9), none, some (.long x11), none, none], [], σ) q)
    (kf : ¬ (x7 &&& (1 : Int64)) = (0 : Int64) → Er (d + 1) 151 (76, [some (.int x0), some (.long x1), none, some (.int x3), some (.int x4), some (.int x5), some (.int x6), some (.long x7), none, some (.long x9), none, some (.long x11), none, none], [], σ) q) :
    Er (d + 1) 151 (67, [some (.int x0), some (.long x1), none, some (.int x3), some (.int x4), some (.int x5), some (.int x6), some (.long x7), none, some (.long x9), none, some (.long x11), none, none], [], σ) q := Er.sT (c2 := (69, [some (.int x0), some (.long x1), none, some (.int x3), some (.int x4), some (.int x5), some (.int x6), some (.long x7), none, some (.long x9), none, some (.long x11), none, none], [.long x7], σ)) r151_67 rfl rfl <| Er.sT (c2 := (70, [some (.int x0), some (.long x1), none, some (.int x3), some (.int x4), some (.int x5), some (.int x6), some (.long x7), none, some (.long x9), none, some (.long x11), none, none], [.long (1 : Int64), .long x7], σ)) r151_69 rfl rfl <| Er.sT (c2 := (71, [some (.int x0), some (.long x1), none, some (.int x3), some (.int x4), some (.int x5), some (.int x6), some (.long x7), none, some (.long x9), none, some (.long x11), none, none], [.long (x7 &&& (1 : Int64))], σ)) r151_70 rfl rfl <| Er.sT (c2 := (72, [some (.int x0), some (.long x1), none, some (.int x3), some (.int x4), some (.int x5), some (.int x6), some (.long x7), none, some (.long x9), none, some (.long x11), none, none], [.long (0 : Int64), .long (x7 &&& (1 : Int64))], σ)) r151_71 rfl rfl <| Er.sT (c2 := (73, [some (.int x0), some (.long x1), none, some (.int x3), some (.int x4), some (.int x5), some (.int x6), some (.long x7), none, some (.long x9), none, some (.long x11), none, none], [.int (lg_cmp (x7 &&& (1 : Int64)) (0 : Int64))], σ)) r151_72 rfl rfl <| Er.sT (c2 := (brn .eq (lg_cmp (x7 &&& (1 : Int64)) (0 : Int64)) (0 : Int32) 80 76, [some (.int x0), some (.long x1), none, some (.int x3), some (.int x4), some (.int x5), some (.int x6), some (.long x7), none, some (.long x9), none, some (.long x11), none, none], [], σ)) r151_73 rfl rfl <| (bl_eq kt kf)
theorem b151_76 {d : Nat} {q : Rs} {x0 : Int32} {x1 : Int64} {x3 : Int32} {x4 : Int32} {x5 : Int32} {x6 : Int32} {x7 : Int64} {x9 : Int64} {x11 : Int64} {σ : St} 
    (k : Er (d + 1) 151 (81, [some (.int x0), some (.long x1), none, some (.int x3), some (.int x4), some (.int x5), some (.int x6), some (.long x7), none, some (.long x9), none, some (.long x11), none, none], [.int (1 : Int32)], σ) q) :
    Er (d + 1) 151 (76, [some (.int x0), some (.long x1), none, some (.int x3), some (.int x4), some (.int x5), some (.int x6), some (.long x7), none, some (.long x9), none, some (.long x11), none, none], [], σ) q := Er.sT (c2 := (77, [some (.int x0), some (.long x1), none, some (.int x3), some (.int x4), some (.int x5), some (.int x6), some (.long x7), none, some (.long x9), none, some (.long x11), none, none], [.int (1 : Int32)], σ)) r151_76 rfl rfl <| Er.sT (c2 := (81, [some (.int x0), some (.long x1), none, some (.int x3), some (.int x4), some (.int x5), some (.int x6), some (.long x7), none, some (.long x9), none, some (.long x11), none, none], [.int (1 : Int32)], σ)) r151_77 rfl rfl <| k
theorem b151_80 {d : Nat} {q : Rs} {x0 : Int32} {x1 : Int64} {x3 : Int32} {x4 : Int32} {x5 : Int32} {x6 : Int32} {x7 : Int64} {x9 : Int64} {x11 : Int64} {σ : St} 
    (k : Er (d + 1) 151 (81, [some (.int x0), some (.long x1), none, some (.int x3), some (.int x4), some (.int x5), some (.int x6), some (.long x7), none, some (.long x9), none, some (.long x11), none, none], [.int (0 : Int32)], σ) q) :
    Er (d + 1) 151 (80, [some (.int x0), some (.long x1), none, some (.int x3), some (.int x4), some (.int x5), some (.int x6), some (.long x7), none, some (.long x9), none, some (.long x11), none, none], [], σ) q := Er.sT (c2 := (81, [some (.int x0), some (.long x1), none, some (.int x3), some (.int x4), some (.int x5), some (.int x6), some (.long x7), none, some (.long x9), none, some (.long x11), none, none], [.int (0 : Int32)], σ)) r151_80 rfl rfl <| k
theorem b151_81 {d : Nat} {q : Rs} {x0 : Int32} {x1 : Int64} {x3 : Int32} {x4 : Int32} {x5 : Int32} {x6 : Int32} {x7 : Int64} {x9 : Int64} {x11 : Int64} {s0 : Int32} {σ : St} 
    (k : Er (d + 1) 151 (119, [some (.int x0), some (.long x1), none, some (.int x3), some (.int x4), some (.int x5), some (.int x6), some (.long x7), none, some (.long x9), none, some (.long x11), none, some (.int s0)], [], σ) q) :
    Er (d + 1) 151 (81, [some (.int x0), some (.long x1), none, some (.int x3), some (.int x4), some (.int x5), some (.int x6), some (.long x7), none, some (.long x9), none, some (.long x11), none, none], [.int s0], σ) q := Er.sT (c2 := (83, [some (.int x0), some (.long x1), none, some (.int x3), some (.int x4), some (.int x5), some (.int x6), some (.long x7), none, some (.long x9), none, some (.long x11), none, some (.int s0)], [], σ)) r151_81 rfl rfl <| Er.sT (c2 := (119, [some (.int x0), some (.long x1), none, some (.int x3), some (.int x4), some (.int x5), some (.int x6), some (.long x7), none, some (.long x9), none, some (.long x11), none, some (.int s0)], [], σ)) r151_83 rfl rfl <| k
theorem b151_86 {d : Nat} {q : Rs} {x0 : Int32} {x1 : Int64} {x3 : Int32} {x4 : Int32} {x5 : Int32} {x6 : Int32} {x7 : Int64} {x9 : Int64} {x11 : Int64} {σ : St} 
    (kt : ¬ x11 = (0 : Int64) → Er (d + 1) 151 (98, [some (.int x0), some (.long x1), none, some (.int x3), some (.int x4), some (.int x5), some (.int x6), some (.long x7), none, some (.long x9), none, some (.long x11), none, none], [], σ) q)
    (kf : x11 = (0 : Int64) → Er (d + 1) 151 (93, [some (.int x0), some (.long x1), none, some (.int x3), some (.int x4), some (.int x5), some (.int x6), some (.long x7), none, some (.long x9), none, some (.long x11), none, none], [], σ) q) :
    Er (d + 1) 151 (86, [some (.int x0), some (.long x1), none, some (.int x3), some (.int x4), some (.int x5), some (.int x6), some (.long x7), none, some (.long x9), none, some (.long x11), none, none], [], σ) q := Er.sT (c2 := (88, [some (.int x0), some (.long x1), none, some (.int x3), some (.int x4), some (.int x5), some (.int x6), some (.long x7), none, some (.long x9), none, some (.long x11), none, none], [.long x11], σ)) r151_86 rfl rfl <| Er.sT (c2 := (89, [some (.int x0), some (.long x1), none, some (.int x3), some (.int x4), some (.int x5), some (.int x6), some (.long x7), none, some (.long x9), none, some (.long x11), none, none], [.long (0 : Int64), .long x11], σ)) r151_88 rfl rfl <| Er.sT (c2 := (90, [some (.int x0), some (.long x1), none, some (.int x3), some (.int x4), some (.int x5), some (.int x6), some (.long x7), none, some (.long x9), none, some (.long x11), none, none], [.int (lg_cmp x11 (0 : Int64))], σ)) r151_89 rfl rfl <| Er.sT (c2 := (brn .ne (lg_cmp x11 (0 : Int64)) (0 : Int32) 98 93, [some (.int x0), some (.long x1), none, some (.int x3), some (.int x4), some (.int x5), some (.int x6), some (.long x7), none, some (.long x9), none, some (.long x11), none, none], [], σ)) r151_90 rfl rfl <| (bl_ne kt kf)
theorem b151_93 {d : Nat} {q : Rs} {x0 : Int32} {x1 : Int64} {x3 : Int32} {x4 : Int32} {x5 : Int32} {x6 : Int32} {x7 : Int64} {x9 : Int64} {x11 : Int64} {σ : St} 
    (kt : x4 = (0 : Int32) → Er (d + 1) 151 (116, [some (.int x0), some (.long x1), none, some (.int x3), some (.int x4), some (.int x5), some (.int x6), some (.long x7), none, some (.long x9), none, some (.long x11), none, none], [], σ) q)
    (kf : ¬ x4 = (0 : Int32) → Er (d + 1) 151 (98, [some (.int x0), some (.long x1), none, some (.int x3), some (.int x4), some (.int x5), some (.int x6), some (.long x7), none, some (.long x9), none, some (.long x11), none, none], [], σ) q) :
    Er (d + 1) 151 (93, [some (.int x0), some (.long x1), none, some (.int x3), some (.int x4), some (.int x5), some (.int x6), some (.long x7), none, some (.long x9), none, some (.long x11), none, none], [], σ) q := Er.sT (c2 := (95, [some (.int x0), some (.long x1), none, some (.int x3), some (.int x4), some (.int x5), some (.int x6), some (.long x7), none, some (.long x9), none, some (.long x11), none, none], [.int x4], σ)) r151_93 rfl rfl <| Er.sT (c2 := (brn .eq x4 (0 : Int32) 116 98, [some (.int x0), some (.long x1), none, some (.int x3), some (.int x4), some (.int x5), some (.int x6), some (.long x7), none, some (.long x9), none, some (.long x11), none, none], [], σ)) r151_95 rfl rfl <| (br_eq kt kf)
theorem b151_98 {d : Nat} {q : Rs} {x0 : Int32} {x1 : Int64} {x3 : Int32} {x4 : Int32} {x5 : Int32} {x6 : Int32} {x7 : Int64} {x9 : Int64} {x11 : Int64} {σ : St} 
    (kt : x0 = (0 : Int32) → Er (d + 1) 151 (108, [some (.int x0), some (.long x1), none, some (.int x3), some (.int x4), some (.int x5), some (.int x6), some (.long x7), none, some (.long x9), none, some (.long x11), none, none], [.int x5], σ) q)
    (kf : ¬ x0 = (0 : Int32) → Er (d + 1) 151 (104, [some (.int x0), some (.long x1), none, some (.int x3), some (.int x4), some (.int x5), some (.int x6), some (.long x7), none, some (.long x9), none, some (.long x11), none, none], [.int x5], σ) q) :
    Er (d + 1) 151 (98, [some (.int x0), some (.long x1), none, some (.int x3), some (.int x4), some (.int x5), some (.int x6), some (.long x7), none, some (.long x9), none, some (.long x11), none, none], [], σ) q := Er.sT (c2 := (100, [some (.int x0), some (.long x1), none, some (.int x3), some (.int x4), some (.int x5), some (.int x6), some (.long x7), none, some (.long x9), none, some (.long x11), none, none], [.int x5], σ)) r151_98 rfl rfl <| Er.sT (c2 := (101, [some (.int x0), some (.long x1), none, some (.int x3), some (.int x4), some (.int x5), some (.int x6), some (.long x7), none, some (.long x9), none, some (.long x11), none, none], [.int x0, .int x5], σ)) r151_100 rfl rfl <| Er.sT (c2 := (brn .eq x0 (0 : Int32) 108 104, [some (.int x0), some (.long x1), none, some (.int x3), some (.int x4), some (.int x5), some (.int x6), some (.long x7), none, some (.long x9), none, some (.long x11), none, none], [.int x5], σ)) r151_101 rfl rfl <| (br_eq kt kf)
theorem b151_104 {d : Nat} {q : Rs} {x0 : Int32} {x1 : Int64} {x3 : Int32} {x4 : Int32} {x5 : Int32} {x6 : Int32} {x7 : Int64} {x9 : Int64} {x11 : Int64} {s0 : Int32} {σ : St} 
    (k : Er (d + 1) 151 (109, [some (.int x0), some (.long x1), none, some (.int x3), some (.int x4), some (.int x5), some (.int x6), some (.long x7), none, some (.long x9), none, some (.long x11), none, none], [.int (2 : Int32), .int s0], σ) q) :
    Er (d + 1) 151 (104, [some (.int x0), some (.long x1), none, some (.int x3), some (.int x4), some (.int x5), some (.int x6), some (.long x7), none, some (.long x9), none, some (.long x11), none, none], [.int s0], σ) q := Er.sT (c2 := (105, [some (.int x0), some (.long x1), none, some (.int x3), some (.int x4), some (.int x5), some (.int x6), some (.long x7), none, some (.long x9), none, some (.long x11), none, none], [.int (2 : Int32), .int s0], σ)) r151_104 rfl rfl <| Er.sT (c2 := (109, [some (.int x0), some (.long x1), none, some (.int x3), some (.int x4), some (.int x5), some (.int x6), some (.long x7), none, some (.long x9), none, some (.long x11), none, none], [.int (2 : Int32), .int s0], σ)) r151_105 rfl rfl <| k
theorem b151_108 {d : Nat} {q : Rs} {x0 : Int32} {x1 : Int64} {x3 : Int32} {x4 : Int32} {x5 : Int32} {x6 : Int32} {x7 : Int64} {x9 : Int64} {x11 : Int64} {s0 : Int32} {σ : St} 
    (k : Er (d + 1) 151 (109, [some (.int x0), some (.long x1), none, some (.int x3), some (.int x4), some (.int x5), some (.int x6), some (.long x7), none, some (.long x9), none, some (.long x11), none, none], [.int (1 : Int32), .int s0], σ) q) :
    Er (d + 1) 151 (108, [some (.int x0), some (.long x1), none, some (.int x3), some (.int x4), some (.int x5), some (.int x6), some (.long x7), none, some (.long x9), none, some (.long x11), none, none], [.int s0], σ) q := Er.sT (c2 := (109, [some (.int x0), some (.long x1), none, some (.int x3), some (.int x4), some (.int x5), some (.int x6), some (.long x7), none, some (.long x9), none, some (.long x11), none, none], [.int (1 : Int32), .int s0], σ)) r151_108 rfl rfl <| k
theorem b151_109 {d : Nat} {q : Rs} {x0 : Int32} {x1 : Int64} {x3 : Int32} {x4 : Int32} {x5 : Int32} {x6 : Int32} {x7 : Int64} {x9 : Int64} {x11 : Int64} {s0 : Int32} {s1 : Int32} {σ : St} 
    (kt : ¬ s0 = s1 → Er (d + 1) 151 (116, [some (.int x0), some (.long x1), none, some (.int x3), some (.int x4), some (.int x5), some (.int x6), some (.long x7), none, some (.long x9), none, some (.long x11), none, none], [], σ) q)
    (kf : s0 = s1 → Er (d + 1) 151 (112, [some (.int x0), some (.long x1), none, some (.int x3), some (.int x4), some (.int x5), some (.int x6), some (.long x7), none, some (.long x9), none, some (.long x11), none, none], [], σ) q) :
    Er (d + 1) 151 (109, [some (.int x0), some (.long x1), none, some (.int x3), some (.int x4), some (.int x5), some (.int x6), some (.long x7), none, some (.long x9), none, some (.long x11), none, none], [.int s1, .int s0], σ) q := Er.sT (c2 := (brn .ne s0 s1 116 112, [some (.int x0), some (.long x1), none, some (.int x3), some (.int x4), some (.int x5), some (.int x6), some (.long x7), none, some (.long x9), none, some (.long x11), none, none], [], σ)) r151_109 rfl rfl <| (br_ne kt kf)
theorem b151_112 {d : Nat} {q : Rs} {x0 : Int32} {x1 : Int64} {x3 : Int32} {x4 : Int32} {x5 : Int32} {x6 : Int32} {x7 : Int64} {x9 : Int64} {x11 : Int64} {σ : St} 
    (k : Er (d + 1) 151 (117, [some (.int x0), some (.long x1), none, some (.int x3), some (.int x4), some (.int x5), some (.int x6), some (.long x7), none, some (.long x9), none, some (.long x11), none, none], [.int (1 : Int32)], σ) q) :
    Er (d + 1) 151 (112, [some (.int x0), some (.long x1), none, some (.int x3), some (.int x4), some (.int x5), some (.int x6), some (.long x7), none, some (.long x9), none, some (.long x11), none, none], [], σ) q := Er.sT (c2 := (113, [some (.int x0), some (.long x1), none, some (.int x3), some (.int x4), some (.int x5), some (.int x6), some (.long x7), none, some (.long x9), none, some (.long x11), none, none], [.int (1 : Int32)], σ)) r151_112 rfl rfl <| Er.sT (c2 := (117, [some (.int x0), some (.long x1), none, some (.int x3), some (.int x4), some (.int x5), some (.int x6), some (.long x7), none, some (.long x9), none, some (.long x11), none, none], [.int (1 : Int32)], σ)) r151_113 rfl rfl <| k
theorem b151_116 {d : Nat} {q : Rs} {x0 : Int32} {x1 : Int64} {x3 : Int32} {x4 : Int32} {x5 : Int32} {x6 : Int32} {x7 : Int64} {x9 : Int64} {x11 : Int64} {σ : St} 
    (k : Er (d + 1) 151 (117, [some (.int x0), some (.long x1), none, some (.int x3), some (.int x4), some (.int x5), some (.int x6), some (.long x7), none, some (.long x9), none, some (.long x11), none, none], [.int (0 : Int32)], σ) q) :
    Er (d + 1) 151 (116, [some (.int x0), some (.long x1), none, some (.int x3), some (.int x4), some (.int x5), some (.int x6), some (.long x7), none, some (.long x9), none, some (.long x11), none, none], [], σ) q := Er.sT (c2 := (117, [some (.int x0), some (.long x1), none, some (.int x3), some (.int x4), some (.int x5), some (.int x6), some (.long x7), none, some (.long x9), none, some (.long x11), none, none], [.int (0 : Int32)], σ)) r151_116 rfl rfl <| k
theorem b151_117 {d : Nat} {q : Rs} {x0 : Int32} {x1 : Int64} {x3 : Int32} {x4 : Int32} {x5 : Int32} {x6 : Int32} {x7 : Int64} {x9 : Int64} {x11 : Int64} {s0 : Int32} {σ : St} 
    (k : Er (d + 1) 151 (119, [some (.int x0), some (.long x1), none, some (.int x3), some (.int x4), some (.int x5), some (.int x6), some (.long x7), none, some (.long x9), none, some (.long x11), none, some (.int s0)], [], σ) q) :
    Er (d + 1) 151 (117, [some (.int x0), some (.long x1), none, some (.int x3), some (.int x4), some (.int x5), some (.int x6), some (.long x7), none, some (.long x9), none, some (.long x11), none, none], [.int s0], σ) q := Er.sT (c2 := (119, [some (.int x0), some (.long x1), none, some (.int x3), some (.int x4), some (.int x5), some (.int x6), some (.long x7), none, some (.long x9), none, some (.long x11), none, some (.int s0)], [], σ)) r151_117 rfl rfl <| k
theorem b151_119 {d : Nat} {q : Rs} {x0 : Int32} {x1 : Int64} {x3 : Int32} {x4 : Int32} {x5 : Int32} {x6 : Int32} {x7 : Int64} {x9 : Int64} {x11 : Int64} {x13 : Int32} {σ : St} 
    (kt : x13 = (0 : Int32) → Er (d + 1) 151 (131, [some (.int x0), some (.long x1), none, some (.int x3), some (.int x4), some (.int x5), some (.int x6), some (.long x7), none, some (.long x9), none, some (.long x11), none, some (.int x13)], [], σ) q)
    (kf : ¬ x13 = (0 : Int32) → Er (d + 1) 151 (124, [some (.int x0), some (.long x1), none, some (.int x3), some (.int x4), some (.int x5), some (.int x6), some (.long x7), none, some (.long x9), none, some (.long x11), none, some (.int x13)], [], σ) q) :
    Er (d + 1) 151 (119, [some (.int x0), some (.long x1), none, some (.int x3), some (.int x4), some (.int x5), some (.int x6), some (.long x7), none, some (.long x9), none, some (.long x11), none, some (.int x13)], [], σ) q := Er.sT (c2 := (121, [some (.int x0), some (.long x1), none, some (.int x3), some (.int x4), some (.int x5), some (.int x6), some (.long x7), none, some (.long x9), none, some (.long x11), none, some (.int x13)], [.int x13], σ)) r151_119 rfl rfl <| Er.sT (c2 := (brn .eq x13 (0 : Int32) 131 124, [some (.int x0), some (.long x1), none, some (.int x3), some (.int x4), some (.int x5), some (.int x6), some (.long x7), none, some (.long x9), none, some (.long x11), none, some (.int x13)], [], σ)) r151_121 rfl rfl <| (br_eq kt kf)
theorem b151_124 {d : Nat} {q : Rs} {x0 : Int32} {x1 : Int64} {x3 : Int32} {x4 : Int32} {x5 : Int32} {x6 : Int32} {x7 : Int64} {x9 : Int64} {x11 : Int64} {x13 : Int32} {σ : St} 
    (k : Er (d + 1) 151 (133, [some (.int x0), some (.long x1), none, some (.int x3), some (.int x4), some (.int x5), some (.int x6), some (.long x7), none, some (.long x9), none, some (.long x11), none, some (.int x13)], [.long (x7 + (1 : Int64))], σ) q) :
    Er (d + 1) 151 (124, [some (.int x0), some (.long x1), none, some (.int x3), some (.int x4), some (.int x5), some (.int x6), some (.long x7), none, some (.long x9), none, some (.long x11), none, some (.int x13)], [], σ) q := Er.sT (c2 := (126, [some (.int x0), some (.long x1), none, some (.int x3), some (.int x4), some (.int x5), some (.int x6), some (.long x7), none, some (.long x9), none, some (.long x11), none, some (.int x13)], [.long x7], σ)) r151_124 rfl rfl <| Er.sT (c2 := (127, [some (.int x0), some (.long x1), none, some (.int x3), some (.int x4), some (.int x5), some (.int x6), some (.long x7), none, some (.long x9), none, some (.long x11), none, some (.int x13)], [.long (1 : Int64), .long x7], σ)) r151_126 rfl rfl <| Er.sT (c2 := (128, [some (.int x0), some (.long x1), none, some (.int x3), some (.int x4), some (.int x5), some (.int x6), some (.long x7), none, some (.long x9), none, some (.long x11), none, some (.int x13)], [.long (x7 + (1 : Int64))], σ)) r151_127 rfl rfl <| Er.sT (c2 := (133, [some (.int x0), some (.long x1), none, some (.int x3), some (.int x4), some (.int x5), some (.int x6), some (.long x7), none, some (.long x9), none, some (.long x11), none, some (.int x13)], [.long (x7 + (1 : Int64))], σ)) r151_128 rfl rfl <| k
theorem b151_131 {d : Nat} {q : Rs} {x0 : Int32} {x1 : Int64} {x3 : Int32} {x4 : Int32} {x5 : Int32} {x6 : Int32} {x7 : Int64} {x9 : Int64} {x11 : Int64} {x13 : Int32} {σ : St} 
    (k : Er (d + 1) 151 (133, [some (.int x0), some (.long x1), none, some (.int x3), some (.int x4), some (.int x5), some (.int x6), some (.long x7), none, some (.long x9), none, some (.long x11), none, some (.int x13)], [.long x7], σ) q) :
    Er (d + 1) 151 (131, [some (.int x0), some (.long x1), none, some (.int x3), some (.int x4), some (.int x5), some (.int x6), some (.long x7), none, some (.long x9), none, some (.long x11), none, some (.int x13)], [], σ) q := Er.sT (c2 := (133, [some (.int x0), some (.long x1), none, some (.int x3), some (.int x4), some (.int x5), some (.int x6), some (.long x7), none, some (.long x9), none, some (.long x11), none, some (.int x13)], [.long x7], σ)) r151_131 rfl rfl <| k
theorem b151_133 {d : Nat} {x0 : Int32} {x1 : Int64} {x3 : Int32} {x4 : Int32} {x5 : Int32} {x6 : Int32} {x7 : Int64} {x9 : Int64} {x11 : Int64} {x13 : Int32} {s0 : Int64} {σ : St}  :
    Er (d + 1) 151 (133, [some (.int x0), some (.long x1), none, some (.int x3), some (.int x4), some (.int x5), some (.int x6), some (.long x7), none, some (.long x9), none, some (.long x11), none, some (.int x13)], [.long s0], σ) (.inl (some (.long s0)), σ, 0) := (Er.ret r151_133 rfl ⟨_, rfl, rfl, rfl⟩)
/-! NumberModels$Machine.remainder(JJ)J -/
theorem tab_152 : tab 152 = tb152_0 := rfl
theorem ch152_0 {j : Nat} {r : Row} (h : tb152_0[j]? = some r) : rowAt 152 r.1 = some r := row_mem 152 (by decide) (by rw [tab_152]; exact List.mem_of_getElem? h)
theorem r152_0 : rowAt 152 0 = some (ra 0 3 (.getstatic 11) 46 0 789) := ch152_0 (j := 0) rfl
theorem r152_3 : rowAt 152 3 = some (ra 3 5 (.astore 4) 4 0 0) := ch152_0 (j := 1) rfl
theorem r152_5 : rowAt 152 5 = some (r0 5 6 (.lload_n 0)) := ch152_0 (j := 2) rfl
theorem r152_6 : rowAt 152 6 = some (ra 6 7 (.lload_n 2) 2 0 0) := ch152_0 (j := 3) rfl
theorem r152_7 : rowAt 152 7 = some (ra 7 10 (.invokestatic 21) 153 2 790) := ch152_0 (j := 4) rfl
theorem r152_10 : rowAt 152 10 = some (ra 10 13 (.ifCond .ne 23) 33 0 0) := ch152_0 (j := 5) rfl
theorem r152_13 : rowAt 152 13 = some (ra 13 15 (.aload 4) 4 0 0) := ch152_0 (j := 6) rfl
theorem r152_15 : rowAt 152 15 = some (r0 15 16 (.lload_n 0)) := ch152_0 (j := 7) rfl
theorem r152_16 : rowAt 152 16 = some (ra 16 19 (.invokevirtual 25) 140 2 794) := ch152_0 (j := 8) rfl
theorem r152_19 : rowAt 152 19 = some (ra 19 22 (.ifCond .eq 14) 33 0 0) := ch152_0 (j := 9) rfl
theorem r152_22 : rowAt 152 22 = some (ra 22 24 (.aload 4) 4 0 0) := ch152_0 (j := 10) rfl
theorem r152_24 : rowAt 152 24 = some (ra 24 25 (.lload_n 2) 2 0 0) := ch152_0 (j := 11) rfl
theorem r152_25 : rowAt 152 25 = some (ra 25 28 (.invokevirtual 28) 141 2 795) := ch152_0 (j := 12) rfl
theorem r152_28 : rowAt 152 28 = some (r0 28 29 (.lconst 0)) := ch152_0 (j := 13) rfl
theorem r152_29 : rowAt 152 29 = some (r0 29 30 (.lcmp)) := ch152_0 (j := 14) rfl
theorem r152_30 : rowAt 152 30 = some (ra 30 33 (.ifCond .ne 9) 39 0 0) := ch152_0 (j := 15) rfl
theorem r152_33 : rowAt 152 33 = some (ra 33 35 (.aload 4) 4 0 0) := ch152_0 (j := 16) rfl
theorem r152_35 : rowAt 152 35 = some (ra 35 38 (.getfield 32) 3 7 1183) := ch152_0 (j := 17) rfl
theorem r152_38 : rowAt 152 38 = some (r0 38 39 (.lreturn)) := ch152_0 (j := 18) rfl
theorem r152_39 : rowAt 152 39 = some (ra 39 41 (.aload 4) 4 0 0) := ch152_0 (j := 19) rfl
theorem r152_41 : rowAt 152 41 = some (r0 41 42 (.lload_n 0)) := ch152_0 (j := 20) rfl
theorem r152_42 : rowAt 152 42 = some (ra 42 45 (.invokevirtual 28) 141 2 795) := ch152_0 (j := 21) rfl
theorem r152_45 : rowAt 152 45 = some (ra 45 47 (.aload 4) 4 0 0) := ch152_0 (j := 22) rfl
theorem r152_47 : rowAt 152 47 = some (ra 47 48 (.lload_n 2) 2 0 0) := ch152_0 (j := 23) rfl
theorem r152_48 : rowAt 152 48 = some (ra 48 51 (.invokevirtual 28) 141 2 795) := ch152_0 (j := 24) rfl
theorem r152_51 : rowAt 152 51 = some (r0 51 52 (.lcmp)) := ch152_0 (j := 25) rfl
theorem r152_52 : rowAt 152 52 = some (ra 52 55 (.ifCond .ge 5) 57 0 0) := ch152_0 (j := 26) rfl
theorem r152_55 : rowAt 152 55 = some (r0 55 56 (.lload_n 0)) := ch152_0 (j := 27) rfl
theorem r152_56 : rowAt 152 56 = some (r0 56 57 (.lreturn)) := ch152_0 (j := 28) rfl
theorem r152_57 : rowAt 152 57 = some (ra 57 59 (.aload 4) 4 0 0) := ch152_0 (j := 29) rfl
theorem r152_59 : rowAt 152 59 = some (ra 59 60 (.lload_n 2) 2 0 0) := ch152_0 (j := 30) rfl
theorem r152_60 : rowAt 152 60 = some (ra 60 63 (.invokevirtual 36) 142 2 796) := ch152_0 (j := 31) rfl
theorem r152_63 : rowAt 152 63 = some (ra 63 65 (.lstore 5) 5 0 0) := ch152_0 (j := 32) rfl
theorem r152_65 : rowAt 152 65 = some (ra 65 67 (.aload 4) 4 0 0) := ch152_0 (j := 33) rfl
theorem r152_67 : rowAt 152 67 = some (r0 67 68 (.lload_n 0)) := ch152_0 (j := 34) rfl
theorem r152_68 : rowAt 152 68 = some (ra 68 71 (.invokevirtual 36) 142 2 796) := ch152_0 (j := 35) rfl
theorem r152_71 : rowAt 152 71 = some (ra 71 73 (.aload 4) 4 0 0) := ch152_0 (j := 36) rfl
theorem r152_73 : rowAt 152 73 = some (r0 73 74 (.lload_n 0)) := ch152_0 (j := 37) rfl
theorem r152_74 : rowAt 152 74 = some (ra 74 77 (.invokevirtual 39) 146 2 797) := ch152_0 (j := 38) rfl
theorem r152_77 : rowAt 152 77 = some (ra 77 79 (.aload 4) 4 0 0) := ch152_0 (j := 39) rfl
theorem r152_79 : rowAt 152 79 = some (ra 79 80 (.lload_n 2) 2 0 0) := ch152_0 (j := 40) rfl
theorem r152_80 : rowAt 152 80 = some (ra 80 83 (.invokevirtual 39) 146 2 797) := ch152_0 (j := 41) rfl
theorem r152_83 : rowAt 152 83 = some (r0 83 84 (.isub)) := ch152_0 (j := 42) rfl
theorem r152_84 : rowAt 152 84 = some (ra 84 86 (.lload 5) 5 0 0) := ch152_0 (j := 43) rfl
theorem r152_86 : rowAt 152 86 = some (ra 86 89 (.invokestatic 43) 154 3 798) := ch152_0 (j := 44) rfl
theorem r152_89 : rowAt 152 89 = some (ra 89 91 (.lstore 7) 7 0 0) := ch152_0 (j := 45) rfl
theorem r152_91 : rowAt 152 91 = some (ra 91 93 (.aload 4) 4 0 0) := ch152_0 (j := 46) rfl
theorem r152_93 : rowAt 152 93 = some (ra 93 95 (.aload 4) 4 0 0) := ch152_0 (j := 47) rfl
theorem r152_95 : rowAt 152 95 = some (r0 95 96 (.lload_n 0)) := ch152_0 (j := 48) rfl
theorem r152_96 : rowAt 152 96 = some (ra 96 99 (.invokevirtual 47) 145 2 802) := ch152_0 (j := 49) rfl
theorem r152_99 : rowAt 152 99 = some (ra 99 101 (.lload 7) 7 0 0) := ch152_0 (j := 50) rfl
theorem r152_101 : rowAt 152 101 = some (ra 101 103 (.aload 4) 4 0 0) := ch152_0 (j := 51) rfl
theorem r152_103 : rowAt 152 103 = some (ra 103 104 (.lload_n 2) 2 0 0) := ch152_0 (j := 52) rfl
theorem r152_104 : rowAt 152 104 = some (ra 104 107 (.invokevirtual 39) 146 2 797) := ch152_0 (j := 53) rfl
theorem r152_107 : rowAt 152 107 = some (r0 107 108 (.iconst 0)) := ch152_0 (j := 54) rfl
theorem r152_108 : rowAt 152 108 = some (r0 108 109 (.iconst 0)) := ch152_0 (j := 55) rfl
theorem r152_109 : rowAt 152 109 = some (ra 109 112 (.invokevirtual 50) 148 6 803) := ch152_0 (j := 56) rfl
theorem r152_112 : rowAt 152 112 = some (r0 112 113 (.lreturn)) := ch152_0 (j := 57) rfl
theorem b152_0 {d : Nat} {q : Rs} {x0 : Int64} {x2 : Int64} {σ : St} {σ2 : St} {r : Int32} 
    (hy : Er d 153 (0, ent 153 [.long x0, .long x2], [], σ) (.inl (some (.int r)), σ2, 0))
    (k : Er (d + 1) 152 (10, [some (.long x0), none, some (.long x2), none, some (.ref 46), none, none, none, none], [.int r], σ2) q) :
    Er (d + 1) 152 (0, [some (.long x0), none, some (.long x2), none, none, none, none, none, none], [], σ) q := Er.sT (c2 := (3, [some (.long x0), none, some (.long x2), none, none, none, none, none, none], [.ref 46], σ)) r152_0 rfl rfl <| Er.sT (c2 := (5, [some (.long x0), none, some (.long x2), none, some (.ref 46), none, none, none, none], [], σ)) r152_3 rfl rfl <| Er.sT (c2 := (6, [some (.long x0), none, some (.long x2), none, some (.ref 46), none, none, none, none], [.long x0], σ)) r152_5 rfl rfl <| Er.sT (c2 := (7, [some (.long x0), none, some (.long x2), none, some (.ref 46), none, none, none, none], [.long x2, .long x0], σ)) r152_6 rfl rfl <| (Er.call (vs := [.long x0, .long x2]) (rest := []) r152_7 rfl rfl (Nat.le_of_ble_eq_true rfl) (Nat.le_of_ble_eq_true rfl) (fun h => absurd h (by decide +kernel)) hy k)
theorem b152_10 {d : Nat} {q : Rs} {x0 : Int64} {x2 : Int64} {x4 : Nat} {s0 : Int32} {σ : St} 
    (kt : ¬ s0 = (0 : Int32) → Er (d + 1) 152 (33, [some (.long x0), none, some (.long x2), none, some (.ref x4), none, none, none, none], [], σ) q)
    (kf : s0 = (0 : Int32) → Er (d + 1) 152 (13, [some (.long x0), none, some (.long x2), none, some (.ref x4), none, none, none, none], [], σ) q) :
    Er (d + 1) 152 (10, [some (.long x0), none, some (.long x2), none, some (.ref x4), none, none, none, none], [.int s0], σ) q := Er.sT (c2 := (brn .ne s0 (0 : Int32) 33 13, [some (.long x0), none, some (.long x2), none, some (.ref x4), none, none, none, none], [], σ)) r152_10 rfl rfl <| (br_ne kt kf)
theorem b152_13 {d : Nat} {q : Rs} {x0 : Int64} {x2 : Int64} {x4 : Nat} {σ : St} {σ2 : St} {r : Int32} (h1 : x4 = 46 ∨ x4 = 47)
    (hy : Er d 140 (0, ent 140 [.ref x4, .long x0], [], σ) (.inl (some (.int r)), σ2, 0))
    (k : Er (d + 1) 152 (19, [some (.long x0), none, some (.long x2), none, some (.ref x4), none, none, none, none], [.int r], σ2) q) :
    Er (d + 1) 152 (13, [some (.long x0), none, some (.long x2), none, some (.ref x4), none, none, none, none], [], σ) q := Er.sT (c2 := (15, [some (.long x0), none, some (.long x2), none, some (.ref x4), none, none, none, none], [.ref x4], σ)) r152_13 rfl rfl <| Er.sT (c2 := (16, [some (.long x0), none, some (.long x2), none, some (.ref x4), none, none, none, none], [.long x0, .ref x4], σ)) r152_15 rfl rfl <| (Er.call (vs := [.ref x4, .long x0]) (rest := []) r152_16 rfl rfl (Nat.le_of_ble_eq_true rfl) (Nat.le_of_ble_eq_true rfl) (fun _ => ⟨_, _, rfl, h1⟩) hy k)
theorem b152_19 {d : Nat} {q : Rs} {x0 : Int64} {x2 : Int64} {x4 : Nat} {s0 : Int32} {σ : St} 
    (kt : s0 = (0 : Int32) → Er (d + 1) 152 (33, [some (.long x0), none, some (.long x2), none, some (.ref x4), none, none, none, none], [], σ) q)
    (kf : ¬ s0 = (0 : Int32) → Er (d + 1) 152 (22, [some (.long x0), none, some (.long x2), none, some (.ref x4), none, none, none, none], [], σ) q) :
    Er (d + 1) 152 (19, [some (.long x0), none, some (.long x2), none, some (.ref x4), none, none, none, none], [.int s0], σ) q := Er.sT (c2 := (brn .eq s0 (0 : Int32) 33 22, [some (.long x0), none, some (.long x2), none, some (.ref x4), none, none, none, none], [], σ)) r152_19 rfl rfl <| (br_eq kt kf)
theorem b152_22 {d : Nat} {q : Rs} {x0 : Int64} {x2 : Int64} {x4 : Nat} {σ : St} {σ2 : St} {r : Int64} (h1 : x4 = 46 ∨ x4 = 47)
    (hy : Er d 141 (0, ent 141 [.ref x4, .long x2], [], σ) (.inl (some (.long r)), σ2, 0))
    (k : Er (d + 1) 152 (28, [some (.long x0), none, some (.long x2), none, some (.ref x4), none, none, none, none], [.long r], σ2) q) :
    Er (d + 1) 152 (22, [some (.long x0), none, some (.long x2), none, some (.ref x4), none, none, none, none], [], σ) q := Er.sT (c2 := (24, [some (.long x0), none, some (.long x2), none, some (.ref x4), none, none, none, none], [.ref x4], σ)) r152_22 rfl rfl <| Er.sT (c2 := (25, [some (.long x0), none, some (.long x2), none, some (.ref x4), none, none, none, none], [.long x2, .ref x4], σ)) r152_24 rfl rfl <| (Er.call (vs := [.ref x4, .long x2]) (rest := []) r152_25 rfl rfl (Nat.le_of_ble_eq_true rfl) (Nat.le_of_ble_eq_true rfl) (fun _ => ⟨_, _, rfl, h1⟩) hy k)
theorem b152_28 {d : Nat} {q : Rs} {x0 : Int64} {x2 : Int64} {x4 : Nat} {s0 : Int64} {σ : St} 
    (kt : ¬ s0 = (0 : Int64) → Er (d + 1) 152 (39, [some (.long x0), none, some (.long x2), none, some (.ref x4), none, none, none, none], [], σ) q)
    (kf : s0 = (0 : Int64) → Er (d + 1) 152 (33, [some (.long x0), none, some (.long x2), none, some (.ref x4), none, none, none, none], [], σ) q) :
    Er (d + 1) 152 (28, [some (.long x0), none, some (.long x2), none, some (.ref x4), none, none, none, none], [.long s0], σ) q := Er.sT (c2 := (29, [some (.long x0), none, some (.long x2), none, some (.ref x4), none, none, none, none], [.long (0 : Int64), .long s0], σ)) r152_28 rfl rfl <| Er.sT (c2 := (30, [some (.long x0), none, some (.long x2), none, some (.ref x4), none, none, none, none], [.int (lg_cmp s0 (0 : Int64))], σ)) r152_29 rfl rfl <| Er.sT (c2 := (brn .ne (lg_cmp s0 (0 : Int64)) (0 : Int32) 39 33, [some (.long x0), none, some (.long x2), none, some (.ref x4), none, none, none, none], [], σ)) r152_30 rfl rfl <| (bl_ne kt kf)
theorem b152_33 {d : Nat} {x0 : Int64} {x2 : Int64} {x4 : Nat} {σ : St} (h1 : x4 = 46 ∨ x4 = 47) :
    Er (d + 1) 152 (33, [some (.long x0), none, some (.long x2), none, some (.ref x4), none, none, none, none], [], σ) (.inl (some (.long (efl x4 3))), σ, 0) := Er.sT (c2 := (35, [some (.long x0), none, some (.long x2), none, some (.ref x4), none, none, none, none], [.ref x4], σ)) r152_33 rfl rfl <| Er.st (P := (x4 = 46 ∨ x4 = 47)) (c2 := (38, [some (.long x0), none, some (.long x2), none, some (.ref x4), none, none, none, none], [.long (efl x4 3)], σ)) r152_35 rfl rfl h1 <| (Er.ret r152_38 rfl ⟨_, rfl, rfl, rfl⟩)
theorem b152_39 {d : Nat} {q : Rs} {x0 : Int64} {x2 : Int64} {x4 : Nat} {σ : St} {σ2 : St} {r : Int64} (h1 : x4 = 46 ∨ x4 = 47)
    (hy : Er d 141 (0, ent 141 [.ref x4, .long x0], [], σ) (.inl (some (.long r)), σ2, 0))
    (k : Er (d + 1) 152 (45, [some (.long x0), none, some (.long x2), none, some (.ref x4), none, none, none, none], [.long r], σ2) q) :
    Er (d + 1) 152 (39, [some (.long x0), none, some (.long x2), none, some (.ref x4), none, none, none, none], [], σ) q := Er.sT (c2 := (41, [some (.long x0), none, some (.long x2), none, some (.ref x4), none, none, none, none], [.ref x4], σ)) r152_39 rfl rfl <| Er.sT (c2 := (42, [some (.long x0), none, some (.long x2), none, some (.ref x4), none, none, none, none], [.long x0, .ref x4], σ)) r152_41 rfl rfl <| (Er.call (vs := [.ref x4, .long x0]) (rest := []) r152_42 rfl rfl (Nat.le_of_ble_eq_true rfl) (Nat.le_of_ble_eq_true rfl) (fun _ => ⟨_, _, rfl, h1⟩) hy k)
theorem b152_45 {d : Nat} {q : Rs} {x0 : Int64} {x2 : Int64} {x4 : Nat} {s0 : Int64} {σ : St} {σ2 : St} {r : Int64} (h1 : x4 = 46 ∨ x4 = 47)
    (hy : Er d 141 (0, ent 141 [.ref x4, .long x2], [], σ) (.inl (some (.long r)), σ2, 0))
    (k : Er (d + 1) 152 (51, [some (.long x0), none, some (.long x2), none, some (.ref x4), none, none, none, none], [.long r, .long s0], σ2) q) :
    Er (d + 1) 152 (45, [some (.long x0), none, some (.long x2), none, some (.ref x4), none, none, none, none], [.long s0], σ) q := Er.sT (c2 := (47, [some (.long x0), none, some (.long x2), none, some (.ref x4), none, none, none, none], [.ref x4, .long s0], σ)) r152_45 rfl rfl <| Er.sT (c2 := (48, [some (.long x0), none, some (.long x2), none, some (.ref x4), none, none, none, none], [.long x2, .ref x4, .long s0], σ)) r152_47 rfl rfl <| (Er.call (vs := [.ref x4, .long x2]) (rest := [.long s0]) r152_48 rfl rfl (Nat.le_of_ble_eq_true rfl) (Nat.le_of_ble_eq_true rfl) (fun _ => ⟨_, _, rfl, h1⟩) hy k)
theorem b152_51 {d : Nat} {q : Rs} {x0 : Int64} {x2 : Int64} {x4 : Nat} {s0 : Int64} {s1 : Int64} {σ : St} 
    (kt : ¬ s0 < s1 → Er (d + 1) 152 (57, [some (.long x0), none, some (.long x2), none, some (.ref x4), none, none, none, none], [], σ) q)
    (kf : s0 < s1 → Er (d + 1) 152 (55, [some (.long x0), none, some (.long x2), none, some (.ref x4), none, none, none, none], [], σ) q) :
    Er (d + 1) 152 (51, [some (.long x0), none, some (.long x2), none, some (.ref x4), none, none, none, none], [.long s1, .long s0], σ) q := Er.sT (c2 := (52, [some (.long x0), none, some (.long x2), none, some (.ref x4), none, none, none, none], [.int (lg_cmp s0 s1)], σ)) r152_51 rfl rfl <| Er.sT (c2 := (brn .ge (lg_cmp s0 s1) (0 : Int32) 57 55, [some (.long x0), none, some (.long x2), none, some (.ref x4), none, none, none, none], [], σ)) r152_52 rfl rfl <| (bl_ge kt kf)
theorem b152_55 {d : Nat} {x0 : Int64} {x2 : Int64} {x4 : Nat} {σ : St}  :
    Er (d + 1) 152 (55, [some (.long x0), none, some (.long x2), none, some (.ref x4), none, none, none, none], [], σ) (.inl (some (.long x0)), σ, 0) := Er.sT (c2 := (56, [some (.long x0), none, some (.long x2), none, some (.ref x4), none, none, none, none], [.long x0], σ)) r152_55 rfl rfl <| (Er.ret r152_56 rfl ⟨_, rfl, rfl, rfl⟩)
theorem b152_57 {d : Nat} {q : Rs} {x0 : Int64} {x2 : Int64} {x4 : Nat} {σ : St} {σ2 : St} {r : Int64} (h1 : x4 = 46 ∨ x4 = 47)
    (hy : Er d 142 (0, ent 142 [.ref x4, .long x2], [], σ) (.inl (some (.long r)), σ2, 0))
    (k : Er (d + 1) 152 (63, [some (.long x0), none, some (.long x2), none, some (.ref x4), none, none, none, none], [.long r], σ2) q) :
    Er (d + 1) 152 (57, [some (.long x0), none, some (.long x2), none, some (.ref x4), none, none, none, none], [], σ) q := Er.sT (c2 := (59, [some (.long x0), none, some (.long x2), none, some (.ref x4), none, none, none, none], [.ref x4], σ)) r152_57 rfl rfl <| Er.sT (c2 := (60, [some (.long x0), none, some (.long x2), none, some (.ref x4), none, none, none, none], [.long x2, .ref x4], σ)) r152_59 rfl rfl <| (Er.call (vs := [.ref x4, .long x2]) (rest := []) r152_60 rfl rfl (Nat.le_of_ble_eq_true rfl) (Nat.le_of_ble_eq_true rfl) (fun _ => ⟨_, _, rfl, h1⟩) hy k)
theorem b152_63 {d : Nat} {q : Rs} {x0 : Int64} {x2 : Int64} {x4 : Nat} {s0 : Int64} {σ : St} {σ2 : St} {r : Int64} (h1 : x4 = 46 ∨ x4 = 47)
    (hy : Er d 142 (0, ent 142 [.ref x4, .long x0], [], σ) (.inl (some (.long r)), σ2, 0))
    (k : Er (d + 1) 152 (71, [some (.long x0), none, some (.long x2), none, some (.ref x4), some (.long s0), none, none, none], [.long r], σ2) q) :
    Er (d + 1) 152 (63, [some (.long x0), none, some (.long x2), none, some (.ref x4), none, none, none, none], [.long s0], σ) q := Er.sT (c2 := (65, [some (.long x0), none, some (.long x2), none, some (.ref x4), some (.long s0), none, none, none], [], σ)) r152_63 rfl rfl <| Er.sT (c2 := (67, [some (.long x0), none, some (.long x2), none, some (.ref x4), some (.long s0), none, none, none], [.ref x4], σ)) r152_65 rfl rfl <| Er.sT (c2 := (68, [some (.long x0), none, some (.long x2), none, some (.ref x4), some (.long s0), none, none, none], [.long x0, .ref x4], σ)) r152_67 rfl rfl <| (Er.call (vs := [.ref x4, .long x0]) (rest := []) r152_68 rfl rfl (Nat.le_of_ble_eq_true rfl) (Nat.le_of_ble_eq_true rfl) (fun _ => ⟨_, _, rfl, h1⟩) hy k)
theorem b152_71 {d : Nat} {q : Rs} {x0 : Int64} {x2 : Int64} {x4 : Nat} {x5 : Int64} {s0 : Int64} {σ : St} {σ2 : St} {r : Int32} (h1 : x4 = 46 ∨ x4 = 47)
    (hy : Er d 146 (0, ent 146 [.ref x4, .long x0], [], σ) (.inl (some (.int r)), σ2, 0))
    (k : Er (d + 1) 152 (77, [some (.long x0), none, some (.long x2), none, some (.ref x4), some (.long x5), none, none, none], [.int r, .long s0], σ2) q) :
    Er (d + 1) 152 (71, [some (.long x0), none, some (.long x2), none, some (.ref x4), some (.long x5), none, none, none], [.long s0], σ) q := Er.sT (c2 := (73, [some (.long x0), none, some (.long x2), none, some (.ref x4), some (.long x5), none, none, none], [.ref x4, .long s0], σ)) r152_71 rfl rfl <| Er.sT (c2 := (74, [some (.long x0), none, some (.long x2), none, some (.ref x4), some (.long x5), none, none, none], [.long x0, .ref x4, .long s0], σ)) r152_73 rfl rfl <| (Er.call (vs := [.ref x4, .long x0]) (rest := [.long s0]) r152_74 rfl rfl (Nat.le_of_ble_eq_true rfl) (Nat.le_of_ble_eq_true rfl) (fun _ => ⟨_, _, rfl, h1⟩) hy k)
theorem b152_77 {d : Nat} {q : Rs} {x0 : Int64} {x2 : Int64} {x4 : Nat} {x5 : Int64} {s0 : Int64} {s1 : Int32} {σ : St} {σ2 : St} {r : Int32} (h1 : x4 = 46 ∨ x4 = 47)
    (hy : Er d 146 (0, ent 146 [.ref x4, .long x2], [], σ) (.inl (some (.int r)), σ2, 0))
    (k : Er (d + 1) 152 (83, [some (.long x0), none, some (.long x2), none, some (.ref x4), some (.long x5), none, none, none], [.int r, .int s1, .long s0], σ2) q) :
    Er (d + 1) 152 (77, [some (.long x0), none, some (.long x2), none, some (.ref x4), some (.long x5), none, none, none], [.int s1, .long s0], σ) q := Er.sT (c2 := (79, [some (.long x0), none, some (.long x2), none, some (.ref x4), some (.long x5), none, none, none], [.ref x4, .int s1, .long s0], σ)) r152_77 rfl rfl <| Er.sT (c2 := (80, [some (.long x0), none, some (.long x2), none, some (.ref x4), some (.long x5), none, none, none], [.long x2, .ref x4, .int s1, .long s0], σ)) r152_79 rfl rfl <| (Er.call (vs := [.ref x4, .long x2]) (rest := [.int s1, .long s0]) r152_80 rfl rfl (Nat.le_of_ble_eq_true rfl) (Nat.le_of_ble_eq_true rfl) (fun _ => ⟨_, _, rfl, h1⟩) hy k)
theorem b152_83 {d : Nat} {q : Rs} {x0 : Int64} {x2 : Int64} {x4 : Nat} {x5 : Int64} {s0 : Int64} {s1 : Int32} {s2 : Int32} {σ : St} {σ2 : St} {r : Int64} 
    (hy : Er d 154 (0, ent 154 [.long s0, .int (s1 - s2), .long x5], [], σ) (.inl (some (.long r)), σ2, 0))
    (k : Er (d + 1) 152 (89, [some (.long x0), none, some (.long x2), none, some (.ref x4), some (.long x5), none, none, none], [.long r], σ2) q) :
    Er (d + 1) 152 (83, [some (.long x0), none, some (.long x2), none, some (.ref x4), some (.long x5), none, none, none], [.int s2, .int s1, .long s0], σ) q := Er.sT (c2 := (84, [some (.long x0), none, some (.long x2), none, some (.ref x4), some (.long x5), none, none, none], [.int (s1 - s2), .long s0], σ)) r152_83 rfl rfl <| Er.sT (c2 := (86, [some (.long x0), none, some (.long x2), none, some (.ref x4), some (.long x5), none, none, none], [.long x5, .int (s1 - s2), .long s0], σ)) r152_84 rfl rfl <| (Er.call (vs := [.long s0, .int (s1 - s2), .long x5]) (rest := []) r152_86 rfl rfl (Nat.le_of_ble_eq_true rfl) (Nat.le_of_ble_eq_true rfl) (fun h => absurd h (by decide +kernel)) hy k)
theorem b152_89 {d : Nat} {q : Rs} {x0 : Int64} {x2 : Int64} {x4 : Nat} {x5 : Int64} {s0 : Int64} {σ : St} {σ2 : St} {r : Int32} (h1 : x4 = 46 ∨ x4 = 47)
    (hy : Er d 145 (0, ent 145 [.ref x4, .long x0], [], σ) (.inl (some (.int r)), σ2, 0))
    (k : Er (d + 1) 152 (99, [some (.long x0), none, some (.long x2), none, some (.ref x4), some (.long x5), none, some (.long s0), none], [.int r, .ref x4], σ2) q) :
    Er (d + 1) 152 (89, [some (.long x0), none, some (.long x2), none, some (.ref x4), some (.long x5), none, none, none], [.long s0], σ) q := Er.sT (c2 := (91, [some (.long x0), none, some (.long x2), none, some (.ref x4), some (.long x5), none, some (.long s0), none], [], σ)) r152_89 rfl rfl <| Er.sT (c2 := (93, [some (.long x0), none, some (.long x2), none, some (.ref x4), some (.long x5), none, some (.long s0), none], [.ref x4], σ)) r152_91 rfl rfl <| Er.sT (c2 := (95, [some (.long x0), none, some (.long x2), none, some (.ref x4), some (.long x5), none, some (.long s0), none], [.ref x4, .ref x4], σ)) r152_93 rfl rfl <| Er.sT (c2 := (96, [some (.long x0), none, some (.long x2), none, some (.ref x4), some (.long x5), none, some (.long s0), none], [.long x0, .ref x4, .ref x4], σ)) r152_95 rfl rfl <| (Er.call (vs := [.ref x4, .long x0]) (rest := [.ref x4]) r152_96 rfl rfl (Nat.le_of_ble_eq_true rfl) (Nat.le_of_ble_eq_true rfl) (fun _ => ⟨_, _, rfl, h1⟩) hy k)
theorem b152_99 {d : Nat} {q : Rs} {x0 : Int64} {x2 : Int64} {x4 : Nat} {x5 : Int64} {x7 : Int64} {s0 : Nat} {s1 : Int32} {σ : St} {σ2 : St} {r : Int32} (h1 : x4 = 46 ∨ x4 = 47)
    (hy : Er d 146 (0, ent 146 [.ref x4, .long x2], [], σ) (.inl (some (.int r)), σ2, 0))
    (k : Er (d + 1) 152 (107, [some (.long x0), none, some (.long x2), none, some (.ref x4), some (.long x5), none, some (.long x7), none], [.int r, .long x7, .int s1, .ref s0], σ2) q) :
    Er (d + 1) 152 (99, [some (.long x0), none, some (.long x2), none, some (.ref x4), some (.long x5), none, some (.long x7), none], [.int s1, .ref s0], σ) q := Er.sT (c2 := (101, [some (.long x0), none, some (.long x2), none, some (.ref x4), some (.long x5), none, some (.long x7), none], [.long x7, .int s1, .ref s0], σ)) r152_99 rfl rfl <| Er.sT (c2 := (103, [some (.long x0), none, some (.long x2), none, some (.ref x4), some (.long x5), none, some (.long x7), none], [.ref x4, .long x7, .int s1, .ref s0], σ)) r152_101 rfl rfl <| Er.sT (c2 := (104, [some (.long x0), none, some (.long x2), none, some (.ref x4), some (.long x5), none, some (.long x7), none], [.long x2, .ref x4, .long x7, .int s1, .ref s0], σ)) r152_103 rfl rfl <| (Er.call (vs := [.ref x4, .long x2]) (rest := [.long x7, .int s1, .ref s0]) r152_104 rfl rfl (Nat.le_of_ble_eq_true rfl) (Nat.le_of_ble_eq_true rfl) (fun _ => ⟨_, _, rfl, h1⟩) hy k)
theorem b152_107 {d : Nat} {q : Rs} {x0 : Int64} {x2 : Int64} {x4 : Nat} {x5 : Int64} {x7 : Int64} {s0 : Nat} {s1 : Int32} {s2 : Int64} {s3 : Int32} {σ : St} {σ2 : St} {r : Int64} (h1 : s0 = 46 ∨ s0 = 47)
    (hy : Er d 148 (0, ent 148 [.ref s0, .int s1, .long s2, .int s3, .int (0 : Int32), .int (0 : Int32)], [], σ) (.inl (some (.long r)), σ2, 0))
    (k : Er (d + 1) 152 (112, [some (.long x0), none, some (.long x2), none, some (.ref x4), some (.long x5), none, some (.long x7), none], [.long r], σ2) q) :
    Er (d + 1) 152 (107, [some (.long x0), none, some (.long x2), none, some (.ref x4), some (.long x5), none, some (.long x7), none], [.int s3, .long s2, .int s1, .ref s0], σ) q := Er.sT (c2 := (108, [some (.long x0), none, some (.long x2), none, some (.ref x4), some (.long x5), none, some (.long x7), none], [.int (0 : Int32), .int s3, .long s2, .int s1, .ref s0], σ)) r152_107 rfl rfl <| Er.sT (c2 := (109, [some (.long x0), none, some (.long x2), none, some (.ref x4), some (.long x5), none, some (.long x7), none], [.int (0 : Int32), .int (0 : Int32), .int s3, .long s2, .int s1, .ref s0], σ)) r152_108 rfl rfl <| (Er.call (vs := [.ref s0, .int s1, .long s2, .int s3, .int (0 : Int32), .int (0 : Int32)]) (rest := []) r152_109 rfl rfl (Nat.le_of_ble_eq_true rfl) (Nat.le_of_ble_eq_true rfl) (fun _ => ⟨_, _, rfl, h1⟩) hy k)
theorem b152_112 {d : Nat} {x0 : Int64} {x2 : Int64} {x4 : Nat} {x5 : Int64} {x7 : Int64} {s0 : Int64} {σ : St}  :
    Er (d + 1) 152 (112, [some (.long x0), none, some (.long x2), none, some (.ref x4), some (.long x5), none, some (.long x7), none], [.long s0], σ) (.inl (some (.long s0)), σ, 0) := (Er.ret r152_112 rfl ⟨_, rfl, rfl, rfl⟩)
/-! NumberModels$Machine.oneIsNoNumber(JJ)Z -/
theorem tab_153 : tab 153 = tb153_0 := rfl
theorem ch153_0 {j : Nat} {r : Row} (h : tb153_0[j]? = some r) : rowAt 153 r.1 = some r := row_mem 153 (by decide) (by rw [tab_153]; exact List.mem_of_getElem? h)
theorem r153_0 : rowAt 153 0 = some (ra 0 3 (.getstatic 11) 46 0 789) := ch153_0 (j := 0) rfl
theorem r153_3 : rowAt 153 3 = some (r0 3 4 (.lload_n 0)) := ch153_0 (j := 1) rfl
theorem r153_4 : rowAt 153 4 = some (ra 4 7 (.invokevirtual 17) 147 2 793) := ch153_0 (j := 2) rfl
theorem r153_7 : rowAt 153 7 = some (ra 7 10 (.ifCond .ne 13) 20 0 0) := ch153_0 (j := 3) rfl
theorem r153_10 : rowAt 153 10 = some (ra 10 13 (.getstatic 11) 46 0 789) := ch153_0 (j := 4) rfl
theorem r153_13 : rowAt 153 13 = some (ra 13 14 (.lload_n 2) 2 0 0) := ch153_0 (j := 5) rfl
theorem r153_14 : rowAt 153 14 = some (ra 14 17 (.invokevirtual 17) 147 2 793) := ch153_0 (j := 6) rfl
theorem r153_17 : rowAt 153 17 = some (ra 17 20 (.ifCond .eq 7) 24 0 0) := ch153_0 (j := 7) rfl
theorem r153_20 : rowAt 153 20 = some (20, 21, .iconst 1, 0, 0, 0, 1, 0) := ch153_0 (j := 8) rfl
theorem r153_21 : rowAt 153 21 = some (ra 21 24 (.goto 4) 25 0 0) := ch153_0 (j := 9) rfl
theorem r153_24 : rowAt 153 24 = some (r0 24 25 (.iconst 0)) := ch153_0 (j := 10) rfl
theorem r153_25 : rowAt 153 25 = some (r0 25 26 (.ireturn)) := ch153_0 (j := 11) rfl
theorem b153_0 {d : Nat} {q : Rs} {x0 : Int64} {x2 : Int64} {σ : St} {σ2 : St} {r : Int32} (h1 : 46 = 46 ∨ 46 = 47)
    (hy : Er d 147 (0, ent 147 [.ref 46, .long x0], [], σ) (.inl (some (.int r)), σ2, 0))
    (k : Er (d + 1) 153 (7, [some (.long x0), none, some (.long x2), none], [.int r], σ2) q) :
    Er (d + 1) 153 (0, [some (.long x0), none, some (.long x2), none], [], σ) q := Er.sT (c2 := (3, [some (.long x0), none, some (.long x2), none], [.ref 46], σ)) r153_0 rfl rfl <| Er.sT (c2 := (4, [some (.long x0), none, some (.long x2), none], [.long x0, .ref 46], σ)) r153_3 rfl rfl <| (Er.call (vs := [.ref 46, .long x0]) (rest := []) r153_4 rfl rfl (Nat.le_of_ble_eq_true rfl) (Nat.le_of_ble_eq_true rfl) (fun _ => ⟨_, _, rfl, h1⟩) hy k)
theorem b153_7 {d : Nat} {q : Rs} {x0 : Int64} {x2 : Int64} {s0 : Int32} {σ : St} 
    (kt : ¬ s0 = (0 : Int32) → Er (d + 1) 153 (20, [some (.long x0), none, some (.long x2), none], [], σ) q)
    (kf : s0 = (0 : Int32) → Er (d + 1) 153 (10, [some (.long x0), none, some (.long x2), none], [], σ) q) :
    Er (d + 1) 153 (7, [some (.long x0), none, some (.long x2), none], [.int s0], σ) q := Er.sT (c2 := (brn .ne s0 (0 : Int32) 20 10, [some (.long x0), none, some (.long x2), none], [], σ)) r153_7 rfl rfl <| (br_ne kt kf)
theorem b153_10 {d : Nat} {q : Rs} {x0 : Int64} {x2 : Int64} {σ : St} {σ2 : St} {r : Int32} (h1 : 46 = 46 ∨ 46 = 47)
    (hy : Er d 147 (0, ent 147 [.ref 46, .long x2], [], σ) (.inl (some (.int r)), σ2, 0))
    (k : Er (d + 1) 153 (17, [some (.long x0), none, some (.long x2), none], [.int r], σ2) q) :
    Er (d + 1) 153 (10, [some (.long x0), none, some (.long x2), none], [], σ) q := Er.sT (c2 := (13, [some (.long x0), none, some (.long x2), none], [.ref 46], σ)) r153_10 rfl rfl <| Er.sT (c2 := (14, [some (.long x0), none, some (.long x2), none], [.long x2, .ref 46], σ)) r153_13 rfl rfl <| (Er.call (vs := [.ref 46, .long x2]) (rest := []) r153_14 rfl rfl (Nat.le_of_ble_eq_true rfl) (Nat.le_of_ble_eq_true rfl) (fun _ => ⟨_, _, rfl, h1⟩) hy k)
theorem b153_17 {d : Nat} {q : Rs} {x0 : Int64} {x2 : Int64} {s0 : Int32} {σ : St} 
    (kt : s0 = (0 : Int32) → Er (d + 1) 153 (24, [some (.long x0), none, some (.long x2), none], [], σ) q)
    (kf : ¬ s0 = (0 : Int32) → Er (d + 1) 153 (20, [some (.long x0), none, some (.long x2), none], [], σ) q) :
    Er (d + 1) 153 (17, [some (.long x0), none, some (.long x2), none], [.int s0], σ) q := Er.sT (c2 := (brn .eq s0 (0 : Int32) 24 20, [some (.long x0), none, some (.long x2), none], [], σ)) r153_17 rfl rfl <| (br_eq kt kf)
theorem b153_20 {d : Nat} {q : Rs} {x0 : Int64} {x2 : Int64} {σ : St} 
    (k : Er (d + 1) 153 (25, [some (.long x0), none, some (.long x2), none], [.int (1 : Int32)], σ) q) :
    Er (d + 1) 153 (20, [some (.long x0), none, some (.long x2), none], [], σ) q := Er.sT (c2 := (21, [some (.long x0), none, some (.long x2), none], [.int (1 : Int32)], σ)) r153_20 rfl rfl <| Er.sT (c2 := (25, [some (.long x0), none, some (.long x2), none], [.int (1 : Int32)], σ)) r153_21 rfl rfl <| k
theorem b153_24 {d : Nat} {q : Rs} {x0 : Int64} {x2 : Int64} {σ : St} 
    (k : Er (d + 1) 153 (25, [some (.long x0), none, some (.long x2), none], [.int (0 : Int32)], σ) q) :
    Er (d + 1) 153 (24, [some (.long x0), none, some (.long x2), none], [], σ) q := Er.sT (c2 := (25, [some (.long x0), none, some (.long x2), none], [.int (0 : Int32)], σ)) r153_24 rfl rfl <| k
theorem b153_25 {d : Nat} {x0 : Int64} {x2 : Int64} {s0 : Int32} {σ : St} (hz : narrow .boolean (.int s0) = .int s0) :
    Er (d + 1) 153 (25, [some (.long x0), none, some (.long x2), none], [.int s0], σ) (.inl (some (.int s0)), σ, 0) := (Er.ret r153_25 rfl ⟨_, _, rfl, rfl, hz, rfl⟩)
/-! NumberModels$Machine.restOfShifted(JIJ)J -/
theorem tab_154 : tab 154 = tb154_0 := rfl
theorem ch154_0 {j : Nat} {r : Row} (h : tb154_0[j]? = some r) : rowAt 154 r.1 = some r := row_mem 154 (by decide) (by rw [tab_154]; exact List.mem_of_getElem? h)
theorem r154_0 : rowAt 154 0 = some (ra 0 1 (.lload_n 3) 3 0 0) := ch154_0 (j := 0) rfl
theorem r154_1 : rowAt 154 1 = some (r0 1 2 (.lconst 0)) := ch154_0 (j := 1) rfl
theorem r154_2 : rowAt 154 2 = some (r0 2 3 (.lcmp)) := ch154_0 (j := 2) rfl
theorem r154_3 : rowAt 154 3 = some (ra 3 6 (.ifCond .gt 5) 8 0 0) := ch154_0 (j := 3) rfl
theorem r154_6 : rowAt 154 6 = some (r0 6 7 (.lconst 0)) := ch154_0 (j := 4) rfl
theorem r154_7 : rowAt 154 7 = some (r0 7 8 (.lreturn)) := ch154_0 (j := 5) rfl
theorem r154_8 : rowAt 154 8 = some (r0 8 9 (.lload_n 0)) := ch154_0 (j := 6) rfl
theorem r154_9 : rowAt 154 9 = some (ra 9 10 (.lload_n 3) 3 0 0) := ch154_0 (j := 7) rfl
theorem r154_10 : rowAt 154 10 = some (r0 10 11 (.lrem)) := ch154_0 (j := 8) rfl
theorem r154_11 : rowAt 154 11 = some (ra 11 13 (.lstore 5) 5 0 0) := ch154_0 (j := 9) rfl
theorem r154_13 : rowAt 154 13 = some (ra 13 14 (.iload_n 2) 2 0 0) := ch154_0 (j := 10) rfl
theorem r154_14 : rowAt 154 14 = some (ra 14 16 (.istore 7) 7 0 0) := ch154_0 (j := 11) rfl
theorem r154_16 : rowAt 154 16 = some (ra 16 18 (.iload 7) 7 0 0) := ch154_0 (j := 12) rfl
theorem r154_18 : rowAt 154 18 = some (ra 18 21 (.ifCond .le 23) 41 0 0) := ch154_0 (j := 13) rfl
theorem r154_21 : rowAt 154 21 = some (ra 21 23 (.lload 5) 5 0 0) := ch154_0 (j := 14) rfl
theorem r154_23 : rowAt 154 23 = some (ra 23 25 (.iload 7) 7 0 0) := ch154_0 (j := 15) rfl
theorem r154_25 : rowAt 154 25 = some (25, 27, .bipush 10, 0, 0, 0, 10, 0) := ch154_0 (j := 16) rfl
theorem r154_27 : rowAt 154 27 = some (ra 27 30 (.invokestatic 54) 990 2 801) := ch154_0 (j := 17) rfl
theorem r154_30 : rowAt 154 30 = some (r0 30 31 (.lshl)) := ch154_0 (j := 18) rfl
theorem r154_31 : rowAt 154 31 = some (ra 31 32 (.lload_n 3) 3 0 0) := ch154_0 (j := 19) rfl
theorem r154_32 : rowAt 154 32 = some (r0 32 33 (.lrem)) := ch154_0 (j := 20) rfl
theorem r154_33 : rowAt 154 33 = some (ra 33 35 (.lstore 5) 5 0 0) := ch154_0 (j := 21) rfl
theorem r154_35 : rowAt 154 35 = some (35, 38, .iinc 7 (-10), 7, 0, 0, (-10), 0) := ch154_0 (j := 22) rfl
theorem r154_38 : rowAt 154 38 = some (ra 38 41 (.goto (-22)) 16 0 0) := ch154_0 (j := 23) rfl
theorem r154_41 : rowAt 154 41 = some (ra 41 43 (.lload 5) 5 0 0) := ch154_0 (j := 24) rfl
theorem r154_43 : rowAt 154 43 = some (r0 43 44 (.lreturn)) := ch154_0 (j := 25) rfl
theorem b154_0 {d : Nat} {q : Rs} {x0 : Int64} {x2 : Int32} {x3 : Int64} {σ : St} 
    (kt : (0 : Int64) < x3 → Er (d + 1) 154 (8, [some (.long x0), none, some (.int x2), some (.long x3), none, none, none, none], [], σ) q)
    (kf : ¬ (0 : Int64) < x3 → Er (d + 1) 154 (6, [some (.long x0), none, some (.int x2), some (.long x3), none, none, none, none], [], σ) q) :
    Er (d + 1) 154 (0, [some (.long x0), none, some (.int x2), some (.long x3), none, none, none, none], [], σ) q := Er.sT (c2 := (1, [some (.long x0), none, some (.int x2), some (.long x3), none, none, none, none], [.long x3], σ)) r154_0 rfl rfl <| Er.sT (c2 := (2, [some (.long x0), none, some (.int x2), some (.long x3), none, none, none, none], [.long (0 : Int64), .long x3], σ)) r154_1 rfl rfl <| Er.sT (c2 := (3, [some (.long x0), none, some (.int x2), some (.long x3), none, none, none, none], [.int (lg_cmp x3 (0 : Int64))], σ)) r154_2 rfl rfl <| Er.sT (c2 := (brn .gt (lg_cmp x3 (0 : Int64)) (0 : Int32) 8 6, [some (.long x0), none, some (.int x2), some (.long x3), none, none, none, none], [], σ)) r154_3 rfl rfl <| (bl_gt kt kf)
theorem b154_6 {d : Nat} {x0 : Int64} {x2 : Int32} {x3 : Int64} {σ : St}  :
    Er (d + 1) 154 (6, [some (.long x0), none, some (.int x2), some (.long x3), none, none, none, none], [], σ) (.inl (some (.long (0 : Int64))), σ, 0) := Er.sT (c2 := (7, [some (.long x0), none, some (.int x2), some (.long x3), none, none, none, none], [.long (0 : Int64)], σ)) r154_6 rfl rfl <| (Er.ret r154_7 rfl ⟨_, rfl, rfl, rfl⟩)
theorem b154_8 {d : Nat} {q : Rs} {x0 : Int64} {x2 : Int32} {x3 : Int64} {σ : St} (h1 : ¬ x3 = 0)
    (k : Er (d + 1) 154 (16, [some (.long x0), none, some (.int x2), some (.long x3), none, some (.long (x0 - x0 / x3 * x3)), none, some (.int x2)], [], σ) q) :
    Er (d + 1) 154 (8, [some (.long x0), none, some (.int x2), some (.long x3), none, none, none, none], [], σ) q := Er.sT (c2 := (9, [some (.long x0), none, some (.int x2), some (.long x3), none, none, none, none], [.long x0], σ)) r154_8 rfl rfl <| Er.sT (c2 := (10, [some (.long x0), none, some (.int x2), some (.long x3), none, none, none, none], [.long x3, .long x0], σ)) r154_9 rfl rfl <| Er.st (P := (¬ x3 = 0)) (c2 := (11, [some (.long x0), none, some (.int x2), some (.long x3), none, none, none, none], [.long (x0 - x0 / x3 * x3)], σ)) r154_10 rfl rfl h1 <| Er.sT (c2 := (13, [some (.long x0), none, some (.int x2), some (.long x3), none, some (.long (x0 - x0 / x3 * x3)), none, none], [], σ)) r154_11 rfl rfl <| Er.sT (c2 := (14, [some (.long x0), none, some (.int x2), some (.long x3), none, some (.long (x0 - x0 / x3 * x3)), none, none], [.int x2], σ)) r154_13 rfl rfl <| Er.sT (c2 := (16, [some (.long x0), none, some (.int x2), some (.long x3), none, some (.long (x0 - x0 / x3 * x3)), none, some (.int x2)], [], σ)) r154_14 rfl rfl <| k
theorem b154_16 {d : Nat} {q : Rs} {x0 : Int64} {x2 : Int32} {x3 : Int64} {x5 : Int64} {x7 : Int32} {σ : St} 
    (kt : x7 ≤ (0 : Int32) → Er (d + 1) 154 (41, [some (.long x0), none, some (.int x2), some (.long x3), none, some (.long x5), none, some (.int x7)], [], σ) q)
    (kf : ¬ x7 ≤ (0 : Int32) → Er (d + 1) 154 (21, [some (.long x0), none, some (.int x2), some (.long x3), none, some (.long x5), none, some (.int x7)], [], σ) q) :
    Er (d + 1) 154 (16, [some (.long x0), none, some (.int x2), some (.long x3), none, some (.long x5), none, some (.int x7)], [], σ) q := Er.sT (c2 := (18, [some (.long x0), none, some (.int x2), some (.long x3), none, some (.long x5), none, some (.int x7)], [.int x7], σ)) r154_16 rfl rfl <| Er.sT (c2 := (brn .le x7 (0 : Int32) 41 21, [some (.long x0), none, some (.int x2), some (.long x3), none, some (.long x5), none, some (.int x7)], [], σ)) r154_18 rfl rfl <| (br_le kt kf)
theorem b154_21 {d : Nat} {q : Rs} {x0 : Int64} {x2 : Int32} {x3 : Int64} {x5 : Int64} {x7 : Int32} {σ : St} (h1 : ¬ x3 = 0)
    (k : Er (d + 1) 154 (16, [some (.long x0), none, some (.int x2), some (.long x3), none, some (.long ((x5 <<< ((if (10 : Int32) < x7 then (10 : Int32) else x7).toInt64 &&& 63)) - (x5 <<< ((if (10 : Int32) < x7 then (10 : Int32) else x7).toInt64 &&& 63)) / x3 * x3)), none, some (.int (x7 + (-10 : Int32)))], [], σ) q) :
    Er (d + 1) 154 (21, [some (.long x0), none, some (.int x2), some (.long x3), none, some (.long x5), none, some (.int x7)], [], σ) q := Er.sT (c2 := (23, [some (.long x0), none, some (.int x2), some (.long x3), none, some (.long x5), none, some (.int x7)], [.long x5], σ)) r154_21 rfl rfl <| Er.sT (c2 := (25, [some (.long x0), none, some (.int x2), some (.long x3), none, some (.long x5), none, some (.int x7)], [.int x7, .long x5], σ)) r154_23 rfl rfl <| Er.sT (c2 := (27, [some (.long x0), none, some (.int x2), some (.long x3), none, some (.long x5), none, some (.int x7)], [.int (10 : Int32), .int x7, .long x5], σ)) r154_25 rfl rfl <| Er.st (P := ((([.long x5] : List Value).map fun v => v.category).sum ≤ 8)) (c2 := (30, [some (.long x0), none, some (.int x2), some (.long x3), none, some (.long x5), none, some (.int x7)], [.int (if (10 : Int32) < x7 then (10 : Int32) else x7), .long x5], σ)) r154_27 rfl rfl (Nat.le_of_ble_eq_true rfl) <| Er.sT (c2 := (31, [some (.long x0), none, some (.int x2), some (.long x3), none, some (.long x5), none, some (.int x7)], [.long (x5 <<< ((if (10 : Int32) < x7 then (10 : Int32) else x7).toInt64 &&& 63))], σ)) r154_30 rfl rfl <| Er.sT (c2 := (32, [some (.long x0), none, some (.int x2), some (.long x3), none, some (.long x5), none, some (.int x7)], [.long x3, .long (x5 <<< ((if (10 : Int32) < x7 then (10 : Int32) else x7).toInt64 &&& 63))], σ)) r154_31 rfl rfl <| Er.st (P := (¬ x3 = 0)) (c2 := (33, [some (.long x0), none, some (.int x2), some (.long x3), none, some (.long x5), none, some (.int x7)], [.long ((x5 <<< ((if (10 : Int32) < x7 then (10 : Int32) else x7).toInt64 &&& 63)) - (x5 <<< ((if (10 : Int32) < x7 then (10 : Int32) else x7).toInt64 &&& 63)) / x3 * x3)], σ)) r154_32 rfl rfl h1 <| Er.sT (c2 := (35, [some (.long x0), none, some (.int x2), some (.long x3), none, some (.long ((x5 <<< ((if (10 : Int32) < x7 then (10 : Int32) else x7).toInt64 &&& 63)) - (x5 <<< ((if (10 : Int32) < x7 then (10 : Int32) else x7).toInt64 &&& 63)) / x3 * x3)), none, some (.int x7)], [], σ)) r154_33 rfl rfl <| Er.sT (c2 := (38, [some (.long x0), none, some (.int x2), some (.long x3), none, some (.long ((x5 <<< ((if (10 : Int32) < x7 then (10 : Int32) else x7).toInt64 &&& 63)) - (x5 <<< ((if (10 : Int32) < x7 then (10 : Int32) else x7).toInt64 &&& 63)) / x3 * x3)), none, some (.int (x7 + (-10 : Int32)))], [], σ)) r154_35 rfl rfl <| Er.sT (c2 := (16, [some (.long x0), none, some (.int x2), some (.long x3), none, some (.long ((x5 <<< ((if (10 : Int32) < x7 then (10 : Int32) else x7).toInt64 &&& 63)) - (x5 <<< ((if (10 : Int32) < x7 then (10 : Int32) else x7).toInt64 &&& 63)) / x3 * x3)), none, some (.int (x7 + (-10 : Int32)))], [], σ)) r154_38 rfl rfl <| k
theorem b154_41 {d : Nat} {x0 : Int64} {x2 : Int32} {x3 : Int64} {x5 : Int64} {x7 : Int32} {σ : St}  :
    Er (d + 1) 154 (41, [some (.long x0), none, some (.int x2), some (.long x3), none, some (.long x5), none, some (.int x7)], [], σ) (.inl (some (.long x5)), σ, 0) := Er.sT (c2 := (43, [some (.long x0), none, some (.int x2), some (.long x3), none, some (.long x5), none, some (.int x7)], [.long x5], σ)) r154_41 rfl rfl <| (Er.ret r154_43 rfl ⟨_, rfl, rfl, rfl⟩)
/-! NumberModels$Machine.toWhole(JI)J -/
theorem tab_155 : tab 155 = tb155_0 := rfl
theorem ch155_0 {j : Nat} {r : Row} (h : tb155_0[j]? = some r) : rowAt 155 r.1 = some r := row_mem 155 (by decide) (by rw [tab_155]; exact List.mem_of_getElem? h)
theorem r155_0 : rowAt 155 0 = some (ra 0 3 (.getstatic 11) 46 0 789) := ch155_0 (j := 0) rfl
theorem r155_3 : rowAt 155 3 = some (ra 3 4 (.astore_n 3) 3 0 0) := ch155_0 (j := 1) rfl
theorem r155_4 : rowAt 155 4 = some (ra 4 5 (.aload_n 3) 3 0 0) := ch155_0 (j := 2) rfl
theorem r155_5 : rowAt 155 5 = some (r0 5 6 (.lload_n 0)) := ch155_0 (j := 3) rfl
theorem r155_6 : rowAt 155 6 = some (ra 6 9 (.invokevirtual 17) 147 2 793) := ch155_0 (j := 4) rfl
theorem r155_9 : rowAt 155 9 = some (ra 9 12 (.ifCond .eq 8) 17 0 0) := ch155_0 (j := 5) rfl
theorem r155_12 : rowAt 155 12 = some (ra 12 13 (.aload_n 3) 3 0 0) := ch155_0 (j := 6) rfl
theorem r155_13 : rowAt 155 13 = some (ra 13 16 (.getfield 32) 3 7 1183) := ch155_0 (j := 7) rfl
theorem r155_16 : rowAt 155 16 = some (r0 16 17 (.lreturn)) := ch155_0 (j := 8) rfl
theorem r155_17 : rowAt 155 17 = some (ra 17 18 (.aload_n 3) 3 0 0) := ch155_0 (j := 9) rfl
theorem r155_18 : rowAt 155 18 = some (r0 18 19 (.lload_n 0)) := ch155_0 (j := 10) rfl
theorem r155_19 : rowAt 155 19 = some (ra 19 22 (.invokevirtual 39) 146 2 797) := ch155_0 (j := 11) rfl
theorem r155_22 : rowAt 155 22 = some (ra 22 24 (.istore 4) 4 0 0) := ch155_0 (j := 12) rfl
theorem r155_24 : rowAt 155 24 = some (ra 24 26 (.iload 4) 4 0 0) := ch155_0 (j := 13) rfl
theorem r155_26 : rowAt 155 26 = some (ra 26 29 (.ifCond .lt 5) 31 0 0) := ch155_0 (j := 14) rfl
theorem r155_29 : rowAt 155 29 = some (r0 29 30 (.lload_n 0)) := ch155_0 (j := 15) rfl
theorem r155_30 : rowAt 155 30 = some (r0 30 31 (.lreturn)) := ch155_0 (j := 16) rfl
theorem r155_31 : rowAt 155 31 = some (ra 31 32 (.aload_n 3) 3 0 0) := ch155_0 (j := 17) rfl
theorem r155_32 : rowAt 155 32 = some (r0 32 33 (.lload_n 0)) := ch155_0 (j := 18) rfl
theorem r155_33 : rowAt 155 33 = some (ra 33 36 (.invokevirtual 47) 145 2 802) := ch155_0 (j := 19) rfl
theorem r155_36 : rowAt 155 36 = some (ra 36 38 (.istore 5) 5 0 0) := ch155_0 (j := 20) rfl
theorem r155_38 : rowAt 155 38 = some (ra 38 40 (.iload 5) 5 0 0) := ch155_0 (j := 21) rfl
theorem r155_40 : rowAt 155 40 = some (ra 40 41 (.aload_n 3) 3 0 0) := ch155_0 (j := 22) rfl
theorem r155_41 : rowAt 155 41 = some (r0 41 42 (.lload_n 0)) := ch155_0 (j := 23) rfl
theorem r155_42 : rowAt 155 42 = some (ra 42 45 (.invokevirtual 36) 142 2 796) := ch155_0 (j := 24) rfl
theorem r155_45 : rowAt 155 45 = some (ra 45 47 (.iload 4) 4 0 0) := ch155_0 (j := 25) rfl
theorem r155_47 : rowAt 155 47 = some (r0 47 48 (.ineg)) := ch155_0 (j := 26) rfl
theorem r155_48 : rowAt 155 48 = some (r0 48 49 (.iconst 0)) := ch155_0 (j := 27) rfl
theorem r155_49 : rowAt 155 49 = some (ra 49 50 (.iload_n 2) 2 0 0) := ch155_0 (j := 28) rfl
theorem r155_50 : rowAt 155 50 = some (ra 50 53 (.invokestatic 60) 151 5 807) := ch155_0 (j := 29) rfl
theorem r155_53 : rowAt 155 53 = some (ra 53 55 (.lstore 6) 6 0 0) := ch155_0 (j := 30) rfl
theorem r155_55 : rowAt 155 55 = some (ra 55 56 (.aload_n 3) 3 0 0) := ch155_0 (j := 31) rfl
theorem r155_56 : rowAt 155 56 = some (ra 56 58 (.iload 5) 5 0 0) := ch155_0 (j := 32) rfl
theorem r155_58 : rowAt 155 58 = some (ra 58 60 (.lload 6) 6 0 0) := ch155_0 (j := 33) rfl
theorem r155_60 : rowAt 155 60 = some (r0 60 61 (.iconst 0)) := ch155_0 (j := 34) rfl
theorem r155_61 : rowAt 155 61 = some (r0 61 62 (.iconst 0)) := ch155_0 (j := 35) rfl
theorem r155_62 : rowAt 155 62 = some (r0 62 63 (.iconst 0)) := ch155_0 (j := 36) rfl
theorem r155_63 : rowAt 155 63 = some (ra 63 66 (.invokevirtual 50) 148 6 803) := ch155_0 (j := 37) rfl
theorem r155_66 : rowAt 155 66 = some (r0 66 67 (.lreturn)) := ch155_0 (j := 38) rfl
theorem b155_0 {d : Nat} {q : Rs} {x0 : Int64} {x2 : Int32} {σ : St} {σ2 : St} {r : Int32} (h1 : 46 = 46 ∨ 46 = 47)
    (hy : Er d 147 (0, ent 147 [.ref 46, .long x0], [], σ) (.inl (some (.int r)), σ2, 0))
    (k : Er (d + 1) 155 (9, [some (.long x0), none, some (.int x2), some (.ref 46), none, none, none, none], [.int r], σ2) q) :
    Er (d + 1) 155 (0, [some (.long x0), none, some (.int x2), none, none, none, none, none], [], σ) q := Er.sT (c2 := (3, [some (.long x0), none, some (.int x2), none, none, none, none, none], [.ref 46], σ)) r155_0 rfl rfl <| Er.sT (c2 := (4, [some (.long x0), none, some (.int x2), some (.ref 46), none, none, none, none], [], σ)) r155_3 rfl rfl <| Er.sT (c2 := (5, [some (.long x0), none, some (.int x2), some (.ref 46), none, none, none, none], [.ref 46], σ)) r155_4 rfl rfl <| Er.sT (c2 := (6, [some (.long x0), none, some (.int x2), some (.ref 46), none, none, none, none], [.long x0, .ref 46], σ)) r155_5 rfl rfl <| (Er.call (vs := [.ref 46, .long x0]) (rest := []) r155_6 rfl rfl (Nat.le_of_ble_eq_true rfl) (Nat.le_of_ble_eq_true rfl) (fun _ => ⟨_, _, rfl, h1⟩) hy k)
theorem b155_9 {d : Nat} {q : Rs} {x0 : Int64} {x2 : Int32} {x3 : Nat} {s0 : Int32} {σ : St} 
    (kt : s0 = (0 : Int32) → Er (d + 1) 155 (17, [some (.long x0), none, some (.int x2), some (.ref x3), none, none, none, none], [], σ) q)
    (kf : ¬ s0 = (0 : Int32) → Er (d + 1) 155 (12, [some (.long x0), none, some (.int x2), some (.ref x3), none, none, none, none], [], σ) q) :
    Er (d + 1) 155 (9, [some (.long x0), none, some (.int x2), some (.ref x3), none, none, none, none], [.int s0], σ) q := Er.sT (c2 := (brn .eq s0 (0 : Int32) 17 12, [some (.long x0), none, some (.int x2), some (.ref x3), none, none, none, none], [], σ)) r155_9 rfl rfl <| (br_eq kt kf)
theorem b155_12 {d : Nat} {x0 : Int64} {x2 : Int32} {x3 : Nat} {σ : St} (h1 : x3 = 46 ∨ x3 = 47) :
    Er (d + 1) 155 (12, [some (.long x0), none, some (.int x2), some (.ref x3), none, none, none, none], [], σ) (.inl (some (.long (efl x3 3))), σ, 0) := Er.sT (c2 := (13, [some (.long x0), none, some (.int x2), some (.ref x3), none, none, none, none], [.ref x3], σ)) r155_12 rfl rfl <| Er.st (P := (x3 = 46 ∨ x3 = 47)) (c2 := (16, [some (.long x0), none, some (.int x2), some (.ref x3), none, none, none, none], [.long (efl x3 3)], σ)) r155_13 rfl rfl h1 <| (Er.ret r155_16 rfl ⟨_, rfl, rfl, rfl⟩)
theorem b155_17 {d : Nat} {q : Rs} {x0 : Int64} {x2 : Int32} {x3 : Nat} {σ : St} {σ2 : St} {r : Int32} (h1 : x3 = 46 ∨ x3 = 47)
    (hy : Er d 146 (0, ent 146 [.ref x3, .long x0], [], σ) (.inl (some (.int r)), σ2, 0))
    (k : Er (d + 1) 155 (22, [some (.long x0), none, some (.int x2), some (.ref x3), none, none, none, none], [.int r], σ2) q) :
    Er (d + 1) 155 (17, [some (.long x0), none, some (.int x2), some (.ref x3), none, none, none, none], [], σ) q := Er.sT (c2 := (18, [some (.long x0), none, some (.int x2), some (.ref x3), none, none, none, none], [.ref x3], σ)) r155_17 rfl rfl <| Er.sT (c2 := (19, [some (.long x0), none, some (.int x2), some (.ref x3), none, none, none, none], [.long x0, .ref x3], σ)) r155_18 rfl rfl <| (Er.call (vs := [.ref x3, .long x0]) (rest := []) r155_19 rfl rfl (Nat.le_of_ble_eq_true rfl) (Nat.le_of_ble_eq_true rfl) (fun _ => ⟨_, _, rfl, h1⟩) hy k)
theorem b155_22 {d : Nat} {q : Rs} {x0 : Int64} {x2 : Int32} {x3 : Nat} {s0 : Int32} {σ : St} 
    (kt : s0 < (0 : Int32) → Er (d + 1) 155 (31, [some (.long x0), none, some (.int x2), some (.ref x3), some (.int s0), none, none, none], [], σ) q)
    (kf : ¬ s0 < (0 : Int32) → Er (d + 1) 155 (29, [some (.long x0), none, some (.int x2), some (.ref x3), some (.int s0), none, none, none], [], σ) q) :
    Er (d + 1) 155 (22, [some (.long x0), none, some (.int x2), some (.ref x3), none, none, none, none], [.int s0], σ) q := Er.sT (c2 := (24, [some (.long x0), none, some (.int x2), some (.ref x3), some (.int s0), none, none, none], [], σ)) r155_22 rfl rfl <| Er.sT (c2 := (26, [some (.long x0), none, some (.int x2), some (.ref x3), some (.int s0), none, none, none], [.int s0], σ)) r155_24 rfl rfl <| Er.sT (c2 := (brn .lt s0 (0 : Int32) 31 29, [some (.long x0), none, some (.int x2), some (.ref x3), some (.int s0), none, none, none], [], σ)) r155_26 rfl rfl <| (br_lt kt kf)
theorem b155_29 {d : Nat} {x0 : Int64} {x2 : Int32} {x3 : Nat} {x4 : Int32} {σ : St}  :
    Er (d + 1) 155 (29, [some (.long x0), none, some (.int x2), some (.ref x3), some (.int x4), none, none, none], [], σ) (.inl (some (.long x0)), σ, 0) := Er.sT (c2 := (30, [some (.long x0), none, some (.int x2), some (.ref x3), some (.int x4), none, none, none], [.long x0], σ)) r155_29 rfl rfl <| (Er.ret r155_30 rfl ⟨_, rfl, rfl, rfl⟩)
theorem b155_31 {d : Nat} {q : Rs} {x0 : Int64} {x2 : Int32} {x3 : Nat} {x4 : Int32} {σ : St} {σ2 : St} {r : Int32} (h1 : x3 = 46 ∨ x3 = 47)
    (hy : Er d 145 (0, ent 145 [.ref x3, .long x0], [], σ) (.inl (some (.int r)), σ2, 0))
    (k : Er (d + 1) 155 (36, [some (.long x0), none, some (.int x2), some (.ref x3), some (.int x4), none, none, none], [.int r], σ2) q) :
    Er (d + 1) 155 (31, [some (.long x0), none, some (.int x2), some (.ref x3), some (.int x4), none, none, none], [], σ) q := Er.sT (c2 := (32, [some (.long x0), none, some (.int x2), some (.ref x3), some (.int x4), none, none, none], [.ref x3], σ)) r155_31 rfl rfl <| Er.sT (c2 := (33, [some (.long x0), none, some (.int x2), some (.ref x3), some (.int x4), none, none, none], [.long x0, .ref x3], σ)) r155_32 rfl rfl <| (Er.call (vs := [.ref x3, .long x0]) (rest := []) r155_33 rfl rfl (Nat.le_of_ble_eq_true rfl) (Nat.le_of_ble_eq_true rfl) (fun _ => ⟨_, _, rfl, h1⟩) hy k)
theorem b155_36 {d : Nat} {q : Rs} {x0 : Int64} {x2 : Int32} {x3 : Nat} {x4 : Int32} {s0 : Int32} {σ : St} {σ2 : St} {r : Int64} (h1 : x3 = 46 ∨ x3 = 47)
    (hy : Er d 142 (0, ent 142 [.ref x3, .long x0], [], σ) (.inl (some (.long r)), σ2, 0))
    (k : Er (d + 1) 155 (45, [some (.long x0), none, some (.int x2), some (.ref x3), some (.int x4), some (.int s0), none, none], [.long r, .int s0], σ2) q) :
    Er (d + 1) 155 (36, [some (.long x0), none, some (.int x2), some (.ref x3), some (.int x4), none, none, none], [.int s0], σ) q := Er.sT (c2 := (38, [some (.long x0), none, some (.int x2), some (.ref x3), some (.int x4), some (.int s0), none, none], [], σ)) r155_36 rfl rfl <| Er.sT (c2 := (40, [some (.long x0), none, some (.int x2), some (.ref x3), some (.int x4), some (.int s0), none, none], [.int s0], σ)) r155_38 rfl rfl <| Er.sT (c2 := (41, [some (.long x0), none, some (.int x2), some (.ref x3), some (.int x4), some (.int s0), none, none], [.ref x3, .int s0], σ)) r155_40 rfl rfl <| Er.sT (c2 := (42, [some (.long x0), none, some (.int x2), some (.ref x3), some (.int x4), some (.int s0), none, none], [.long x0, .ref x3, .int s0], σ)) r155_41 rfl rfl <| (Er.call (vs := [.ref x3, .long x0]) (rest := [.int s0]) r155_42 rfl rfl (Nat.le_of_ble_eq_true rfl) (Nat.le_of_ble_eq_true rfl) (fun _ => ⟨_, _, rfl, h1⟩) hy k)
theorem b155_45 {d : Nat} {q : Rs} {x0 : Int64} {x2 : Int32} {x3 : Nat} {x4 : Int32} {x5 : Int32} {s0 : Int32} {s1 : Int64} {σ : St} {σ2 : St} {r : Int64} 
    (hy : Er d 151 (0, ent 151 [.int s0, .long s1, .int (-x4), .int (0 : Int32), .int x2], [], σ) (.inl (some (.long r)), σ2, 0))
    (k : Er (d + 1) 155 (53, [some (.long x0), none, some (.int x2), some (.ref x3), some (.int x4), some (.int x5), none, none], [.long r], σ2) q) :
    Er (d + 1) 155 (45, [some (.long x0), none, some (.int x2), some (.ref x3), some (.int x4), some (.int x5), none, none], [.long s1, .int s0], σ) q := Er.sT (c2 := (47, [some (.long x0), none, some (.int x2), some (.ref x3), some (.int x4), some (.int x5), none, none], [.int x4, .long s1, .int s0], σ)) r155_45 rfl rfl <| Er.sT (c2 := (48, [some (.long x0), none, some (.int x2), some (.ref x3), some (.int x4), some (.int x5), none, none], [.int (-x4), .long s1, .int s0], σ)) r155_47 rfl rfl <| Er.sT (c2 := (49, [some (.long x0), none, some (.int x2), some (.ref x3), some (.int x4), some (.int x5), none, none], [.int (0 : Int32), .int (-x4), .long s1, .int s0], σ)) r155_48 rfl rfl <| Er.sT (c2 := (50, [some (.long x0), none, some (.int x2), some (.ref x3), some (.int x4), some (.int x5), none, none], [.int x2, .int (0 : Int32), .int (-x4), .long s1, .int s0], σ)) r155_49 rfl rfl <| (Er.call (vs := [.int s0, .long s1, .int (-x4), .int (0 : Int32), .int x2]) (rest := []) r155_50 rfl rfl (Nat.le_of_ble_eq_true rfl) (Nat.le_of_ble_eq_true rfl) (fun h => absurd h (by decide +kernel)) hy k)
theorem b155_53 {d : Nat} {q : Rs} {x0 : Int64} {x2 : Int32} {x3 : Nat} {x4 : Int32} {x5 : Int32} {s0 : Int64} {σ : St} {σ2 : St} {r : Int64} (h1 : x3 = 46 ∨ x3 = 47)
    (hy : Er d 148 (0, ent 148 [.ref x3, .int x5, .long s0, .int (0 : Int32), .int (0 : Int32), .int (0 : Int32)], [], σ) (.inl (some (.long r)), σ2, 0))
    (k : Er (d + 1) 155 (66, [some (.long x0), none, some (.int x2), some (.ref x3), some (.int x4), some (.int x5), some (.long s0), none], [.long r], σ2) q) :
    Er (d + 1) 155 (53, [some (.long x0), none, some (.int x2), some (.ref x3), some (.int x4), some (.int x5), none, none], [.long s0], σ) q := Er.sT (c2 := (55, [some (.long x0), none, some (.int x2), some (.ref x3), some (.int x4), some (.int x5), some (.long s0), none], [], σ)) r155_53 rfl rfl <| Er.sT (c2 := (56, [some (.long x0), none, some (.int x2), some (.ref x3), some (.int x4), some (.int x5), some (.long s0), none], [.ref x3], σ)) r155_55 rfl rfl <| Er.sT (c2 := (58, [some (.long x0), none, some (.int x2), some (.ref x3), some (.int x4), some (.int x5), some (.long s0), none], [.int x5, .ref x3], σ)) r155_56 rfl rfl <| Er.sT (c2 := (60, [some (.long x0), none, some (.int x2), some (.ref x3), some (.int x4), some (.int x5), some (.long s0), none], [.long s0, .int x5, .ref x3], σ)) r155_58 rfl rfl <| Er.sT (c2 := (61, [some (.long x0), none, some (.int x2), some (.ref x3), some (.int x4), some (.int x5), some (.long s0), none], [.int (0 : Int32), .long s0, .int x5, .ref x3], σ)) r155_60 rfl rfl <| Er.sT (c2 := (62, [some (.long x0), none, some (.int x2), some (.ref x3), some (.int x4), some (.int x5), some (.long s0), none], [.int (0 : Int32), .int (0 : Int32), .long s0, .int x5, .ref x3], σ)) r155_61 rfl rfl <| Er.sT (c2 := (63, [some (.long x0), none, some (.int x2), some (.ref x3), some (.int x4), some (.int x5), some (.long s0), none], [.int (0 : Int32), .int (0 : Int32), .int (0 : Int32), .long s0, .int x5, .ref x3], σ)) r155_62 rfl rfl <| (Er.call (vs := [.ref x3, .int x5, .long s0, .int (0 : Int32), .int (0 : Int32), .int (0 : Int32)]) (rest := []) r155_63 rfl rfl (Nat.le_of_ble_eq_true rfl) (Nat.le_of_ble_eq_true rfl) (fun _ => ⟨_, _, rfl, h1⟩) hy k)
theorem b155_66 {d : Nat} {x0 : Int64} {x2 : Int32} {x3 : Nat} {x4 : Int32} {x5 : Int32} {x6 : Int64} {s0 : Int64} {σ : St}  :
    Er (d + 1) 155 (66, [some (.long x0), none, some (.int x2), some (.ref x3), some (.int x4), some (.int x5), some (.long x6), none], [.long s0], σ) (.inl (some (.long s0)), σ, 0) := (Er.ret r155_66 rfl ⟨_, rfl, rfl, rfl⟩)
/-! NumberModels$Machine.greater(JJ)J -/
theorem tab_156 : tab 156 = tb156_0 := rfl
theorem ch156_0 {j : Nat} {r : Row} (h : tb156_0[j]? = some r) : rowAt 156 r.1 = some r := row_mem 156 (by decide) (by rw [tab_156]; exact List.mem_of_getElem? h)
theorem r156_0 : rowAt 156 0 = some (r0 0 1 (.lload_n 0)) := ch156_0 (j := 0) rfl
theorem r156_1 : rowAt 156 1 = some (ra 1 2 (.lload_n 2) 2 0 0) := ch156_0 (j := 1) rfl
theorem r156_2 : rowAt 156 2 = some (ra 2 5 (.invokestatic 21) 153 2 790) := ch156_0 (j := 2) rfl
theorem r156_5 : rowAt 156 5 = some (ra 5 8 (.ifCond .eq 10) 15 0 0) := ch156_0 (j := 3) rfl
theorem r156_8 : rowAt 156 8 = some (ra 8 11 (.getstatic 11) 46 0 789) := ch156_0 (j := 4) rfl
theorem r156_11 : rowAt 156 11 = some (ra 11 14 (.getfield 32) 3 7 1183) := ch156_0 (j := 5) rfl
theorem r156_14 : rowAt 156 14 = some (r0 14 15 (.lreturn)) := ch156_0 (j := 6) rfl
theorem r156_15 : rowAt 156 15 = some (r0 15 16 (.lload_n 0)) := ch156_0 (j := 7) rfl
theorem r156_16 : rowAt 156 16 = some (ra 16 19 (.invokestatic 63) 157 1 811) := ch156_0 (j := 8) rfl
theorem r156_19 : rowAt 156 19 = some (ra 19 20 (.lload_n 2) 2 0 0) := ch156_0 (j := 9) rfl
theorem r156_20 : rowAt 156 20 = some (ra 20 23 (.invokestatic 63) 157 1 811) := ch156_0 (j := 10) rfl
theorem r156_23 : rowAt 156 23 = some (r0 23 24 (.lcmp)) := ch156_0 (j := 11) rfl
theorem r156_24 : rowAt 156 24 = some (ra 24 27 (.ifCond .lt 7) 31 0 0) := ch156_0 (j := 12) rfl
theorem r156_27 : rowAt 156 27 = some (r0 27 28 (.lload_n 0)) := ch156_0 (j := 13) rfl
theorem r156_28 : rowAt 156 28 = some (ra 28 31 (.goto 4) 32 0 0) := ch156_0 (j := 14) rfl
theorem r156_31 : rowAt 156 31 = some (ra 31 32 (.lload_n 2) 2 0 0) := ch156_0 (j := 15) rfl
theorem r156_32 : rowAt 156 32 = some (r0 32 33 (.lreturn)) := ch156_0 (j := 16) rfl
theorem b156_0 {d : Nat} {q : Rs} {x0 : Int64} {x2 : Int64} {σ : St} {σ2 : St} {r : Int32} 
    (hy : Er d 153 (0, ent 153 [.long x0, .long x2], [], σ) (.inl (some (.int r)), σ2, 0))
    (k : Er (d + 1) 156 (5, [some (.long x0), none, some (.long x2), none], [.int r], σ2) q) :
    Er (d + 1) 156 (0, [some (.long x0), none, some (.long x2), none], [], σ) q := Er.sT (c2 := (1, [some (.long x0), none, some (.long x2), none], [.long x0], σ)) r156_0 rfl rfl <| Er.sT (c2 := (2, [some (.long x0), none, some (.long x2), none], [.long x2, .long x0], σ)) r156_1 rfl rfl <| (Er.call (vs := [.long x0, .long x2]) (rest := []) r156_2 rfl rfl (Nat.le_of_ble_eq_true rfl) (Nat.le_of_ble_eq_true rfl) (fun h => absurd h (by decide +kernel)) hy k)
theorem b156_5 {d : Nat} {q : Rs} {x0 : Int64} {x2 : Int64} {s0 : Int32} {σ : St} 
    (kt : s0 = (0 : Int32) → Er (d + 1) 156 (15, [some (.long x0), none, some (.long x2), none], [], σ) q)
    (kf : ¬ s0 = (0 : Int32) → Er (d + 1) 156 (8, [some (.long x0), none, some (.long x2), none], [], σ) q) :
    Er (d + 1) 156 (5, [some (.long x0), none, some (.long x2), none], [.int s0], σ) q := Er.sT (c2 := (brn .eq s0 (0 : Int32) 15 8, [some (.long x0), none, some (.long x2), none], [], σ)) r156_5 rfl rfl <| (br_eq kt kf)
theorem b156_8 {d : Nat} {x0 : Int64} {x2 : Int64} {σ : St} (h1 : 46 = 46 ∨ 46 = 47) :
    Er (d + 1) 156 (8, [some (.long x0), none, some (.long x2), none], [], σ) (.inl (some (.long (efl 46 3))), σ, 0) := Er.sT (c2 := (11, [some (.long x0), none, some (.long x2), none], [.ref 46], σ)) r156_8 rfl rfl <| Er.st (P := (46 = 46 ∨ 46 = 47)) (c2 := (14, [some (.long x0), none, some (.long x2), none], [.long (efl 46 3)], σ)) r156_11 rfl rfl h1 <| (Er.ret r156_14 rfl ⟨_, rfl, rfl, rfl⟩)
theorem b156_15 {d : Nat} {q : Rs} {x0 : Int64} {x2 : Int64} {σ : St} {σ2 : St} {r : Int64} 
    (hy : Er d 157 (0, ent 157 [.long x0], [], σ) (.inl (some (.long r)), σ2, 0))
    (k : Er (d + 1) 156 (19, [some (.long x0), none, some (.long x2), none], [.long r], σ2) q) :
    Er (d + 1) 156 (15, [some (.long x0), none, some (.long x2), none], [], σ) q := Er.sT (c2 := (16, [some (.long x0), none, some (.long x2), none], [.long x0], σ)) r156_15 rfl rfl <| (Er.call (vs := [.long x0]) (rest := []) r156_16 rfl rfl (Nat.le_of_ble_eq_true rfl) (Nat.le_of_ble_eq_true rfl) (fun h => absurd h (by decide +kernel)) hy k)
theorem b156_19 {d : Nat} {q : Rs} {x0 : Int64} {x2 : Int64} {s0 : Int64} {σ : St} {σ2 : St} {r : Int64} 
    (hy : Er d 157 (0, ent 157 [.long x2], [], σ) (.inl (some (.long r)), σ2, 0))
    (k : Er (d + 1) 156 (23, [some (.long x0), none, some (.long x2), none], [.long r, .long s0], σ2) q) :
    Er (d + 1) 156 (19, [some (.long x0), none, some (.long x2), none], [.long s0], σ) q := Er.sT (c2 := (20, [some (.long x0), none, some (.long x2), none], [.long x2, .long s0], σ)) r156_19 rfl rfl <| (Er.call (vs := [.long x2]) (rest := [.long s0]) r156_20 rfl rfl (Nat.le_of_ble_eq_true rfl) (Nat.le_of_ble_eq_true rfl) (fun h => absurd h (by decide +kernel)) hy k)
theorem b156_23 {d : Nat} {q : Rs} {x0 : Int64} {x2 : Int64} {s0 : Int64} {s1 : Int64} {σ : St} 
    (kt : s0 < s1 → Er (d + 1) 156 (31, [some (.long x0), none, some (.long x2), none], [], σ) q)
    (kf : ¬ s0 < s1 → Er (d + 1) 156 (27, [some (.long x0), none, some (.long x2), none], [], σ) q) :
    Er (d + 1) 156 (23, [some (.long x0), none, some (.long x2), none], [.long s1, .long s0], σ) q := Er.sT (c2 := (24, [some (.long x0), none, some (.long x2), none], [.int (lg_cmp s0 s1)], σ)) r156_23 rfl rfl <| Er.sT (c2 := (brn .lt (lg_cmp s0 s1) (0 : Int32) 31 27, [some (.long x0), none, some (.long x2), none], [], σ)) r156_24 rfl rfl <| (bl_lt kt kf)
theorem b156_27 {d : Nat} {q : Rs} {x0 : Int64} {x2 : Int64} {σ : St} 
    (k : Er (d + 1) 156 (32, [some (.long x0), none, some (.long x2), none], [.long x0], σ) q) :
    Er (d + 1) 156 (27, [some (.long x0), none, some (.long x2), none], [], σ) q := Er.sT (c2 := (28, [some (.long x0), none, some (.long x2), none], [.long x0], σ)) r156_27 rfl rfl <| Er.sT (c2 := (32, [some (.long x0), none, some (.long x2), none], [.long x0], σ)) r156_28 rfl rfl <| k
theorem b156_31 {d : Nat} {q : Rs} {x0 : Int64} {x2 : Int64} {σ : St} 
    (k : Er (d + 1) 156 (32, [some (.long x0), none, some (.long x2), none], [.long x2], σ) q) :
    Er (d + 1) 156 (31, [some (.long x0), none, some (.long x2), none], [], σ) q := Er.sT (c2 := (32, [some (.long x0), none, some (.long x2), none], [.long x2], σ)) r156_31 rfl rfl <| k
theorem b156_32 {d : Nat} {x0 : Int64} {x2 : Int64} {s0 : Int64} {σ : St}  :
    Er (d + 1) 156 (32, [some (.long x0), none, some (.long x2), none], [.long s0], σ) (.inl (some (.long s0)), σ, 0) := (Er.ret r156_32 rfl ⟨_, rfl, rfl, rfl⟩)
/-! NumberModels$Machine.rank(J)J -/
theorem tab_157 : tab 157 = tb157_0 := rfl
theorem ch157_0 {j : Nat} {r : Row} (h : tb157_0[j]? = some r) : rowAt 157 r.1 = some r := row_mem 157 (by decide) (by rw [tab_157]; exact List.mem_of_getElem? h)
theorem r157_0 : rowAt 157 0 = some (ra 0 3 (.getstatic 11) 46 0 789) := ch157_0 (j := 0) rfl
theorem r157_3 : rowAt 157 3 = some (r0 3 4 (.lload_n 0)) := ch157_0 (j := 1) rfl
theorem r157_4 : rowAt 157 4 = some (ra 4 7 (.invokevirtual 28) 141 2 795) := ch157_0 (j := 2) rfl
theorem r157_7 : rowAt 157 7 = some (ra 7 8 (.lstore_n 2) 2 0 0) := ch157_0 (j := 3) rfl
theorem r157_8 : rowAt 157 8 = some (ra 8 11 (.getstatic 11) 46 0 789) := ch157_0 (j := 4) rfl
theorem r157_11 : rowAt 157 11 = some (r0 11 12 (.lload_n 0)) := ch157_0 (j := 5) rfl
theorem r157_12 : rowAt 157 12 = some (ra 12 15 (.invokevirtual 47) 145 2 802) := ch157_0 (j := 6) rfl
theorem r157_15 : rowAt 157 15 = some (ra 15 18 (.ifCond .eq 10) 25 0 0) := ch157_0 (j := 7) rfl
theorem r157_18 : rowAt 157 18 = some (ra 18 19 (.lload_n 2) 2 0 0) := ch157_0 (j := 8) rfl
theorem r157_19 : rowAt 157 19 = some (r0 19 20 (.lneg)) := ch157_0 (j := 9) rfl
theorem r157_20 : rowAt 157 20 = some (20, 21, .lconst 1, 0, 0, 0, 0, 1) := ch157_0 (j := 10) rfl
theorem r157_21 : rowAt 157 21 = some (r0 21 22 (.lsub)) := ch157_0 (j := 11) rfl
theorem r157_22 : rowAt 157 22 = some (ra 22 25 (.goto 4) 26 0 0) := ch157_0 (j := 12) rfl
theorem r157_25 : rowAt 157 25 = some (ra 25 26 (.lload_n 2) 2 0 0) := ch157_0 (j := 13) rfl
theorem r157_26 : rowAt 157 26 = some (r0 26 27 (.lreturn)) := ch157_0 (j := 14) rfl
theorem b157_0 {d : Nat} {q : Rs} {x0 : Int64} {σ : St} {σ2 : St} {r : Int64} (h1 : 46 = 46 ∨ 46 = 47)
    (hy : Er d 141 (0, ent 141 [.ref 46, .long x0], [], σ) (.inl (some (.long r)), σ2, 0))
    (k : Er (d + 1) 157 (7, [some (.long x0), none, none, none], [.long r], σ2) q) :
    Er (d + 1) 157 (0, [some (.long x0), none, none, none], [], σ) q := Er.sT (c2 := (3, [some (.long x0), none, none, none], [.ref 46], σ)) r157_0 rfl rfl <| Er.sT (c2 := (4, [some (.long x0), none, none, none], [.long x0, .ref 46], σ)) r157_3 rfl rfl <| (Er.call (vs := [.ref 46, .long x0]) (rest := []) r157_4 rfl rfl (Nat.le_of_ble_eq_true rfl) (Nat.le_of_ble_eq_true rfl) (fun _ => ⟨_, _, rfl, h1⟩) hy k)
theorem b157_7 {d : Nat} {q : Rs} {x0 : Int64} {s0 : Int64} {σ : St} {σ2 : St} {r : Int32} (h1 : 46 = 46 ∨ 46 = 47)
    (hy : Er d 145 (0, ent 145 [.ref 46, .long x0], [], σ) (.inl (some (.int r)), σ2, 0))
    (k : Er (d + 1) 157 (15, [some (.long x0), none, some (.long s0), none], [.int r], σ2) q) :
    Er (d + 1) 157 (7, [some (.long x0), none, none, none], [.long s0], σ) q := Er.sT (c2 := (8, [some (.long x0), none, some (.long s0), none], [], σ)) r157_7 rfl rfl <| Er.sT (c2 := (11, [some (.long x0), none, some (.long s0), none], [.ref 46], σ)) r157_8 rfl rfl <| Er.sT (c2 := (12, [some (.long x0), none, some (.long s0), none], [.long x0, .ref 46], σ)) r157_11 rfl rfl <| (Er.call (vs := [.ref 46, .long x0]) (rest := []) r157_12 rfl rfl (Nat.le_of_ble_eq_true rfl) (Nat.le_of_ble_eq_true rfl) (fun _ => ⟨_, _, rfl, h1⟩) hy k)
theorem b157_15 {d : Nat} {q : Rs} {x0 : Int64} {x2 : Int64} {s0 : Int32} {σ : St} 
    (kt : s0 = (0 : Int32) → Er (d + 1) 157 (25, [some (.long x0), none, some (.long x2), none], [], σ) q)
    (kf : ¬ s0 = (0 : Int32) → Er (d + 1) 157 (18, [some (.long x0), none, some (.long x2), none], [], σ) q) :
    Er (d + 1) 157 (15, [some (.long x0), none, some (.long x2), none], [.int s0], σ) q := Er.sT (c2 := (brn .eq s0 (0 : Int32) 25 18, [some (.long x0), none, some (.long x2), none], [], σ)) r157_15 rfl rfl <| (br_eq kt kf)
theorem b157_18 {d : Nat} {q : Rs} {x0 : Int64} {x2 : Int64} {σ : St} 
    (k : Er (d + 1) 157 (26, [some (.long x0), none, some (.long x2), none], [.long ((-x2) - (1 : Int64))], σ) q) :
    Er (d + 1) 157 (18, [some (.long x0), none, some (.long x2), none], [], σ) q := Er.sT (c2 := (19, [some (.long x0), none, some (.long x2), none], [.long x2], σ)) r157_18 rfl rfl <| Er.sT (c2 := (20, [some (.long x0), none, some (.long x2), none], [.long (-x2)], σ)) r157_19 rfl rfl <| Er.sT (c2 := (21, [some (.long x0), none, some (.long x2), none], [.long (1 : Int64), .long (-x2)], σ)) r157_20 rfl rfl <| Er.sT (c2 := (22, [some (.long x0), none, some (.long x2), none], [.long ((-x2) - (1 : Int64))], σ)) r157_21 rfl rfl <| Er.sT (c2 := (26, [some (.long x0), none, some (.long x2), none], [.long ((-x2) - (1 : Int64))], σ)) r157_22 rfl rfl <| k
theorem b157_25 {d : Nat} {q : Rs} {x0 : Int64} {x2 : Int64} {σ : St} 
    (k : Er (d + 1) 157 (26, [some (.long x0), none, some (.long x2), none], [.long x2], σ) q) :
    Er (d + 1) 157 (25, [some (.long x0), none, some (.long x2), none], [], σ) q := Er.sT (c2 := (26, [some (.long x0), none, some (.long x2), none], [.long x2], σ)) r157_25 rfl rfl <| k
theorem b157_26 {d : Nat} {x0 : Int64} {x2 : Int64} {s0 : Int64} {σ : St}  :
    Er (d + 1) 157 (26, [some (.long x0), none, some (.long x2), none], [.long s0], σ) (.inl (some (.long s0)), σ, 0) := (Er.ret r157_26 rfl ⟨_, rfl, rfl, rfl⟩)
/-! NumberModels$Machine.lesser(JJ)J -/
theorem tab_158 : tab 158 = tb158_0 := rfl
theorem ch158_0 {j : Nat} {r : Row} (h : tb158_0[j]? = some r) : rowAt 158 r.1 = some r := row_mem 158 (by decide) (by rw [tab_158]; exact List.mem_of_getElem? h)
theorem r158_0 : rowAt 158 0 = some (r0 0 1 (.lload_n 0)) := ch158_0 (j := 0) rfl
theorem r158_1 : rowAt 158 1 = some (ra 1 2 (.lload_n 2) 2 0 0) := ch158_0 (j := 1) rfl
theorem r158_2 : rowAt 158 2 = some (ra 2 5 (.invokestatic 21) 153 2 790) := ch158_0 (j := 2) rfl
theorem r158_5 : rowAt 158 5 = some (ra 5 8 (.ifCond .eq 10) 15 0 0) := ch158_0 (j := 3) rfl
theorem r158_8 : rowAt 158 8 = some (ra 8 11 (.getstatic 11) 46 0 789) := ch158_0 (j := 4) rfl
theorem r158_11 : rowAt 158 11 = some (ra 11 14 (.getfield 32) 3 7 1183) := ch158_0 (j := 5) rfl
theorem r158_14 : rowAt 158 14 = some (r0 14 15 (.lreturn)) := ch158_0 (j := 6) rfl
theorem r158_15 : rowAt 158 15 = some (r0 15 16 (.lload_n 0)) := ch158_0 (j := 7) rfl
theorem r158_16 : rowAt 158 16 = some (ra 16 19 (.invokestatic 63) 157 1 811) := ch158_0 (j := 8) rfl
theorem r158_19 : rowAt 158 19 = some (ra 19 20 (.lload_n 2) 2 0 0) := ch158_0 (j := 9) rfl
theorem r158_20 : rowAt 158 20 = some (ra 20 23 (.invokestatic 63) 157 1 811) := ch158_0 (j := 10) rfl
theorem r158_23 : rowAt 158 23 = some (r0 23 24 (.lcmp)) := ch158_0 (j := 11) rfl
theorem r158_24 : rowAt 158 24 = some (ra 24 27 (.ifCond .gt 7) 31 0 0) := ch158_0 (j := 12) rfl
theorem r158_27 : rowAt 158 27 = some (r0 27 28 (.lload_n 0)) := ch158_0 (j := 13) rfl
theorem r158_28 : rowAt 158 28 = some (ra 28 31 (.goto 4) 32 0 0) := ch158_0 (j := 14) rfl
theorem r158_31 : rowAt 158 31 = some (ra 31 32 (.lload_n 2) 2 0 0) := ch158_0 (j := 15) rfl
theorem r158_32 : rowAt 158 32 = some (r0 32 33 (.lreturn)) := ch158_0 (j := 16) rfl
theorem b158_0 {d : Nat} {q : Rs} {x0 : Int64} {x2 : Int64} {σ : St} {σ2 : St} {r : Int32} 
    (hy : Er d 153 (0, ent 153 [.long x0, .long x2], [], σ) (.inl (some (.int r)), σ2, 0))
    (k : Er (d + 1) 158 (5, [some (.long x0), none, some (.long x2), none], [.int r], σ2) q) :
    Er (d + 1) 158 (0, [some (.long x0), none, some (.long x2), none], [], σ) q := Er.sT (c2 := (1, [some (.long x0), none, some (.long x2), none], [.long x0], σ)) r158_0 rfl rfl <| Er.sT (c2 := (2, [some (.long x0), none, some (.long x2), none], [.long x2, .long x0], σ)) r158_1 rfl rfl <| (Er.call (vs := [.long x0, .long x2]) (rest := []) r158_2 rfl rfl (Nat.le_of_ble_eq_true rfl) (Nat.le_of_ble_eq_true rfl) (fun h => absurd h (by decide +kernel)) hy k)
theorem b158_5 {d : Nat} {q : Rs} {x0 : Int64} {x2 : Int64} {s0 : Int32} {σ : St} 
    (kt : s0 = (0 : Int32) → Er (d + 1) 158 (15, [some (.long x0), none, some (.long x2), none], [], σ) q)
    (kf : ¬ s0 = (0 : Int32) → Er (d + 1) 158 (8, [some (.long x0), none, some (.long x2), none], [], σ) q) :
    Er (d + 1) 158 (5, [some (.long x0), none, some (.long x2), none], [.int s0], σ) q := Er.sT (c2 := (brn .eq s0 (0 : Int32) 15 8, [some (.long x0), none, some (.long x2), none], [], σ)) r158_5 rfl rfl <| (br_eq kt kf)
theorem b158_8 {d : Nat} {x0 : Int64} {x2 : Int64} {σ : St} (h1 : 46 = 46 ∨ 46 = 47) :
    Er (d + 1) 158 (8, [some (.long x0), none, some (.long x2), none], [], σ) (.inl (some (.long (efl 46 3))), σ, 0) := Er.sT (c2 := (11, [some (.long x0), none, some (.long x2), none], [.ref 46], σ)) r158_8 rfl rfl <| Er.st (P := (46 = 46 ∨ 46 = 47)) (c2 := (14, [some (.long x0), none, some (.long x2), none], [.long (efl 46 3)], σ)) r158_11 rfl rfl h1 <| (Er.ret r158_14 rfl ⟨_, rfl, rfl, rfl⟩)
theorem b158_15 {d : Nat} {q : Rs} {x0 : Int64} {x2 : Int64} {σ : St} {σ2 : St} {r : Int64} 
    (hy : Er d 157 (0, ent 157 [.long x0], [], σ) (.inl (some (.long r)), σ2, 0))
    (k : Er (d + 1) 158 (19, [some (.long x0), none, some (.long x2), none], [.long r], σ2) q) :
    Er (d + 1) 158 (15, [some (.long x0), none, some (.long x2), none], [], σ) q := Er.sT (c2 := (16, [some (.long x0), none, some (.long x2), none], [.long x0], σ)) r158_15 rfl rfl <| (Er.call (vs := [.long x0]) (rest := []) r158_16 rfl rfl (Nat.le_of_ble_eq_true rfl) (Nat.le_of_ble_eq_true rfl) (fun h => absurd h (by decide +kernel)) hy k)
theorem b158_19 {d : Nat} {q : Rs} {x0 : Int64} {x2 : Int64} {s0 : Int64} {σ : St} {σ2 : St} {r : Int64} 
    (hy : Er d 157 (0, ent 157 [.long x2], [], σ) (.inl (some (.long r)), σ2, 0))
    (k : Er (d + 1) 158 (23, [some (.long x0), none, some (.long x2), none], [.long r, .long s0], σ2) q) :
    Er (d + 1) 158 (19, [some (.long x0), none, some (.long x2), none], [.long s0], σ) q := Er.sT (c2 := (20, [some (.long x0), none, some (.long x2), none], [.long x2, .long s0], σ)) r158_19 rfl rfl <| (Er.call (vs := [.long x2]) (rest := [.long s0]) r158_20 rfl rfl (Nat.le_of_ble_eq_true rfl) (Nat.le_of_ble_eq_true rfl) (fun h => absurd h (by decide +kernel)) hy k)
theorem b158_23 {d : Nat} {q : Rs} {x0 : Int64} {x2 : Int64} {s0 : Int64} {s1 : Int64} {σ : St} 
    (kt : s1 < s0 → Er (d + 1) 158 (31, [some (.long x0), none, some (.long x2), none], [], σ) q)
    (kf : ¬ s1 < s0 → Er (d + 1) 158 (27, [some (.long x0), none, some (.long x2), none], [], σ) q) :
    Er (d + 1) 158 (23, [some (.long x0), none, some (.long x2), none], [.long s1, .long s0], σ) q := Er.sT (c2 := (24, [some (.long x0), none, some (.long x2), none], [.int (lg_cmp s0 s1)], σ)) r158_23 rfl rfl <| Er.sT (c2 := (brn .gt (lg_cmp s0 s1) (0 : Int32) 31 27, [some (.long x0), none, some (.long x2), none], [], σ)) r158_24 rfl rfl <| (bl_gt kt kf)
theorem b158_27 {d : Nat} {q : Rs} {x0 : Int64} {x2 : Int64} {σ : St} 
    (k : Er (d + 1) 158 (32, [some (.long x0), none, some (.long x2), none], [.long x0], σ) q) :
    Er (d + 1) 158 (27, [some (.long x0), none, some (.long x2), none], [], σ) q := Er.sT (c2 := (28, [some (.long x0), none, some (.long x2), none], [.long x0], σ)) r158_27 rfl rfl <| Er.sT (c2 := (32, [some (.long x0), none, some (.long x2), none], [.long x0], σ)) r158_28 rfl rfl <| k
theorem b158_31 {d : Nat} {q : Rs} {x0 : Int64} {x2 : Int64} {σ : St} 
    (k : Er (d + 1) 158 (32, [some (.long x0), none, some (.long x2), none], [.long x2], σ) q) :
    Er (d + 1) 158 (31, [some (.long x0), none, some (.long x2), none], [], σ) q := Er.sT (c2 := (32, [some (.long x0), none, some (.long x2), none], [.long x2], σ)) r158_31 rfl rfl <| k
theorem b158_32 {d : Nat} {x0 : Int64} {x2 : Int64} {s0 : Int64} {σ : St}  :
    Er (d + 1) 158 (32, [some (.long x0), none, some (.long x2), none], [.long s0], σ) (.inl (some (.long s0)), σ, 0) := (Er.ret r158_32 rfl ⟨_, rfl, rfl, rfl⟩)
/-! NumberModels$Machine.withSignOf(JJ)J -/
theorem tab_159 : tab 159 = tb159_0 := rfl
theorem ch159_0 {j : Nat} {r : Row} (h : tb159_0[j]? = some r) : rowAt 159 r.1 = some r := row_mem 159 (by decide) (by rw [tab_159]; exact List.mem_of_getElem? h)
theorem r159_0 : rowAt 159 0 = some (ra 0 3 (.getstatic 11) 46 0 789) := ch159_0 (j := 0) rfl
theorem r159_3 : rowAt 159 3 = some (ra 3 5 (.astore 4) 4 0 0) := ch159_0 (j := 1) rfl
theorem r159_5 : rowAt 159 5 = some (ra 5 7 (.aload 4) 4 0 0) := ch159_0 (j := 2) rfl
theorem r159_7 : rowAt 159 7 = some (r0 7 8 (.lload_n 0)) := ch159_0 (j := 3) rfl
theorem r159_8 : rowAt 159 8 = some (ra 8 11 (.invokevirtual 17) 147 2 793) := ch159_0 (j := 4) rfl
theorem r159_11 : rowAt 159 11 = some (ra 11 14 (.ifCond .eq 11) 22 0 0) := ch159_0 (j := 5) rfl
theorem r159_14 : rowAt 159 14 = some (ra 14 16 (.aload 4) 4 0 0) := ch159_0 (j := 6) rfl
theorem r159_16 : rowAt 159 16 = some (ra 16 19 (.getfield 32) 3 7 1183) := ch159_0 (j := 7) rfl
theorem r159_19 : rowAt 159 19 = some (ra 19 22 (.goto 20) 39 0 0) := ch159_0 (j := 8) rfl
theorem r159_22 : rowAt 159 22 = some (ra 22 24 (.aload 4) 4 0 0) := ch159_0 (j := 9) rfl
theorem r159_24 : rowAt 159 24 = some (ra 24 26 (.aload 4) 4 0 0) := ch159_0 (j := 10) rfl
theorem r159_26 : rowAt 159 26 = some (ra 26 27 (.lload_n 2) 2 0 0) := ch159_0 (j := 11) rfl
theorem r159_27 : rowAt 159 27 = some (ra 27 30 (.invokevirtual 47) 145 2 802) := ch159_0 (j := 12) rfl
theorem r159_30 : rowAt 159 30 = some (ra 30 32 (.aload 4) 4 0 0) := ch159_0 (j := 13) rfl
theorem r159_32 : rowAt 159 32 = some (r0 32 33 (.lload_n 0)) := ch159_0 (j := 14) rfl
theorem r159_33 : rowAt 159 33 = some (ra 33 36 (.invokevirtual 28) 141 2 795) := ch159_0 (j := 15) rfl
theorem r159_36 : rowAt 159 36 = some (ra 36 39 (.invokevirtual 66) 149 3 820) := ch159_0 (j := 16) rfl
theorem r159_39 : rowAt 159 39 = some (r0 39 40 (.lreturn)) := ch159_0 (j := 17) rfl
theorem b159_0 {d : Nat} {q : Rs} {x0 : Int64} {x2 : Int64} {σ : St} {σ2 : St} {r : Int32} (h1 : 46 = 46 ∨ 46 = 47)
    (hy : Er d 147 (0, ent 147 [.ref 46, .long x0], [], σ) (.inl (some (.int r)), σ2, 0))
    (k : Er (d + 1) 159 (11, [some (.long x0), none, some (.long x2), none, some (.ref 46)], [.int r], σ2) q) :
    Er (d + 1) 159 (0, [some (.long x0), none, some (.long x2), none, none], [], σ) q := Er.sT (c2 := (3, [some (.long x0), none, some (.long x2), none, none], [.ref 46], σ)) r159_0 rfl rfl <| Er.sT (c2 := (5, [some (.long x0), none, some (.long x2), none, some (.ref 46)], [], σ)) r159_3 rfl rfl <| Er.sT (c2 := (7, [some (.long x0), none, some (.long x2), none, some (.ref 46)], [.ref 46], σ)) r159_5 rfl rfl <| Er.sT (c2 := (8, [some (.long x0), none, some (.long x2), none, some (.ref 46)], [.long x0, .ref 46], σ)) r159_7 rfl rfl <| (Er.call (vs := [.ref 46, .long x0]) (rest := []) r159_8 rfl rfl (Nat.le_of_ble_eq_true rfl) (Nat.le_of_ble_eq_true rfl) (fun _ => ⟨_, _, rfl, h1⟩) hy k)
theorem b159_11 {d : Nat} {q : Rs} {x0 : Int64} {x2 : Int64} {x4 : Nat} {s0 : Int32} {σ : St} 
    (kt : s0 = (0 : Int32) → Er (d + 1) 159 (22, [some (.long x0), none, some (.long x2), none, some (.ref x4)], [], σ) q)
    (kf : ¬ s0 = (0 : Int32) → Er (d + 1) 159 (14, [some (.long x0), none, some (.long x2), none, some (.ref x4)], [], σ) q) :
    Er (d + 1) 159 (11, [some (.long x0), none, some (.long x2), none, some (.ref x4)], [.int s0], σ) q := Er.sT (c2 := (brn .eq s0 (0 : Int32) 22 14, [some (.long x0), none, some (.long x2), none, some (.ref x4)], [], σ)) r159_11 rfl rfl <| (br_eq kt kf)
theorem b159_14 {d : Nat} {q : Rs} {x0 : Int64} {x2 : Int64} {x4 : Nat} {σ : St} (h1 : x4 = 46 ∨ x4 = 47)
    (k : Er (d + 1) 159 (39, [some (.long x0), none, some (.long x2), none, some (.ref x4)], [.long (efl x4 3)], σ) q) :
    Er (d + 1) 159 (14, [some (.long x0), none, some (.long x2), none, some (.ref x4)], [], σ) q := Er.sT (c2 := (16, [some (.long x0), none, some (.long x2), none, some (.ref x4)], [.ref x4], σ)) r159_14 rfl rfl <| Er.st (P := (x4 = 46 ∨ x4 = 47)) (c2 := (19, [some (.long x0), none, some (.long x2), none, some (.ref x4)], [.long (efl x4 3)], σ)) r159_16 rfl rfl h1 <| Er.sT (c2 := (39, [some (.long x0), none, some (.long x2), none, some (.ref x4)], [.long (efl x4 3)], σ)) r159_19 rfl rfl <| k
theorem b159_22 {d : Nat} {q : Rs} {x0 : Int64} {x2 : Int64} {x4 : Nat} {σ : St} {σ2 : St} {r : Int32} (h1 : x4 = 46 ∨ x4 = 47)
    (hy : Er d 145 (0, ent 145 [.ref x4, .long x2], [], σ) (.inl (some (.int r)), σ2, 0))
    (k : Er (d + 1) 159 (30, [some (.long x0), none, some (.long x2), none, some (.ref x4)], [.int r, .ref x4], σ2) q) :
    Er (d + 1) 159 (22, [some (.long x0), none, some (.long x2), none, some (.ref x4)], [], σ) q := Er.sT (c2 := (24, [some (.long x0), none, some (.long x2), none, some (.ref x4)], [.ref x4], σ)) r159_22 rfl rfl <| Er.sT (c2 := (26, [some (.long x0), none, some (.long x2), none, some (.ref x4)], [.ref x4, .ref x4], σ)) r159_24 rfl rfl <| Er.sT (c2 := (27, [some (.long x0), none, some (.long x2), none, some (.ref x4)], [.long x2, .ref x4, .ref x4], σ)) r159_26 rfl rfl <| (Er.call (vs := [.ref x4, .long x2]) (rest := [.ref x4]) r159_27 rfl rfl (Nat.le_of_ble_eq_true rfl) (Nat.le_of_ble_eq_true rfl) (fun _ => ⟨_, _, rfl, h1⟩) hy k)
theorem b159_30 {d : Nat} {q : Rs} {x0 : Int64} {x2 : Int64} {x4 : Nat} {s0 : Nat} {s1 : Int32} {σ : St} {σ2 : St} {r : Int64} (h1 : x4 = 46 ∨ x4 = 47)
    (hy : Er d 141 (0, ent 141 [.ref x4, .long x0], [], σ) (.inl (some (.long r)), σ2, 0))
    (k : Er (d + 1) 159 (36, [some (.long x0), none, some (.long x2), none, some (.ref x4)], [.long r, .int s1, .ref s0], σ2) q) :
    Er (d + 1) 159 (30, [some (.long x0), none, some (.long x2), none, some (.ref x4)], [.int s1, .ref s0], σ) q := Er.sT (c2 := (32, [some (.long x0), none, some (.long x2), none, some (.ref x4)], [.ref x4, .int s1, .ref s0], σ)) r159_30 rfl rfl <| Er.sT (c2 := (33, [some (.long x0), none, some (.long x2), none, some (.ref x4)], [.long x0, .ref x4, .int s1, .ref s0], σ)) r159_32 rfl rfl <| (Er.call (vs := [.ref x4, .long x0]) (rest := [.int s1, .ref s0]) r159_33 rfl rfl (Nat.le_of_ble_eq_true rfl) (Nat.le_of_ble_eq_true rfl) (fun _ => ⟨_, _, rfl, h1⟩) hy k)
theorem b159_36 {d : Nat} {q : Rs} {x0 : Int64} {x2 : Int64} {x4 : Nat} {s0 : Nat} {s1 : Int32} {s2 : Int64} {σ : St} {σ2 : St} {r : Int64} (h1 : s0 = 46 ∨ s0 = 47)
    (hy : Er d 149 (0, ent 149 [.ref s0, .int s1, .long s2], [], σ) (.inl (some (.long r)), σ2, 0))
    (k : Er (d + 1) 159 (39, [some (.long x0), none, some (.long x2), none, some (.ref x4)], [.long r], σ2) q) :
    Er (d + 1) 159 (36, [some (.long x0), none, some (.long x2), none, some (.ref x4)], [.long s2, .int s1, .ref s0], σ) q := (Er.call (vs := [.ref s0, .int s1, .long s2]) (rest := []) r159_36 rfl rfl (Nat.le_of_ble_eq_true rfl) (Nat.le_of_ble_eq_true rfl) (fun _ => ⟨_, _, rfl, h1⟩) hy k)
theorem b159_39 {d : Nat} {x0 : Int64} {x2 : Int64} {x4 : Nat} {s0 : Int64} {σ : St}  :
    Er (d + 1) 159 (39, [some (.long x0), none, some (.long x2), none, some (.ref x4)], [.long s0], σ) (.inl (some (.long s0)), σ, 0) := (Er.ret r159_39 rfl ⟨_, rfl, rfl, rfl⟩)
/-! NumberModels$Machine.nextAbove(J)J -/
theorem tab_160 : tab 160 = tb160_0 := rfl
theorem ch160_0 {j : Nat} {r : Row} (h : tb160_0[j]? = some r) : rowAt 160 r.1 = some r := row_mem 160 (by decide) (by rw [tab_160]; exact List.mem_of_getElem? h)
theorem r160_0 : rowAt 160 0 = some (ra 0 3 (.getstatic 11) 46 0 789) := ch160_0 (j := 0) rfl
theorem r160_3 : rowAt 160 3 = some (ra 3 4 (.astore_n 2) 2 0 0) := ch160_0 (j := 1) rfl
theorem r160_4 : rowAt 160 4 = some (ra 4 5 (.aload_n 2) 2 0 0) := ch160_0 (j := 2) rfl
theorem r160_5 : rowAt 160 5 = some (r0 5 6 (.lload_n 0)) := ch160_0 (j := 3) rfl
theorem r160_6 : rowAt 160 6 = some (ra 6 9 (.invokevirtual 17) 147 2 793) := ch160_0 (j := 4) rfl
theorem r160_9 : rowAt 160 9 = some (ra 9 12 (.ifCond .eq 8) 17 0 0) := ch160_0 (j := 5) rfl
theorem r160_12 : rowAt 160 12 = some (ra 12 13 (.aload_n 2) 2 0 0) := ch160_0 (j := 6) rfl
theorem r160_13 : rowAt 160 13 = some (ra 13 16 (.getfield 32) 3 7 1183) := ch160_0 (j := 7) rfl
theorem r160_16 : rowAt 160 16 = some (r0 16 17 (.lreturn)) := ch160_0 (j := 8) rfl
theorem r160_17 : rowAt 160 17 = some (ra 17 18 (.aload_n 2) 2 0 0) := ch160_0 (j := 9) rfl
theorem r160_18 : rowAt 160 18 = some (r0 18 19 (.lload_n 0)) := ch160_0 (j := 10) rfl
theorem r160_19 : rowAt 160 19 = some (ra 19 22 (.invokevirtual 28) 141 2 795) := ch160_0 (j := 11) rfl
theorem r160_22 : rowAt 160 22 = some (r0 22 23 (.lconst 0)) := ch160_0 (j := 12) rfl
theorem r160_23 : rowAt 160 23 = some (r0 23 24 (.lcmp)) := ch160_0 (j := 13) rfl
theorem r160_24 : rowAt 160 24 = some (ra 24 27 (.ifCond .ne 5) 29 0 0) := ch160_0 (j := 14) rfl
theorem r160_27 : rowAt 160 27 = some (27, 28, .lconst 1, 0, 0, 0, 0, 1) := ch160_0 (j := 15) rfl
theorem r160_28 : rowAt 160 28 = some (r0 28 29 (.lreturn)) := ch160_0 (j := 16) rfl
theorem r160_29 : rowAt 160 29 = some (ra 29 30 (.aload_n 2) 2 0 0) := ch160_0 (j := 17) rfl
theorem r160_30 : rowAt 160 30 = some (r0 30 31 (.lload_n 0)) := ch160_0 (j := 18) rfl
theorem r160_31 : rowAt 160 31 = some (ra 31 34 (.invokevirtual 47) 145 2 802) := ch160_0 (j := 19) rfl
theorem r160_34 : rowAt 160 34 = some (ra 34 37 (.ifCond .eq 7) 41 0 0) := ch160_0 (j := 20) rfl
theorem r160_37 : rowAt 160 37 = some (r0 37 38 (.lload_n 0)) := ch160_0 (j := 21) rfl
theorem r160_38 : rowAt 160 38 = some (38, 39, .lconst 1, 0, 0, 0, 0, 1) := ch160_0 (j := 22) rfl
theorem r160_39 : rowAt 160 39 = some (r0 39 40 (.lsub)) := ch160_0 (j := 23) rfl
theorem r160_40 : rowAt 160 40 = some (r0 40 41 (.lreturn)) := ch160_0 (j := 24) rfl
theorem r160_41 : rowAt 160 41 = some (r0 41 42 (.lload_n 0)) := ch160_0 (j := 25) rfl
theorem r160_42 : rowAt 160 42 = some (ra 42 43 (.aload_n 2) 2 0 0) := ch160_0 (j := 26) rfl
theorem r160_43 : rowAt 160 43 = some (ra 43 46 (.getfield 70) 4 7 1184) := ch160_0 (j := 27) rfl
theorem r160_46 : rowAt 160 46 = some (r0 46 47 (.lcmp)) := ch160_0 (j := 28) rfl
theorem r160_47 : rowAt 160 47 = some (ra 47 50 (.ifCond .ne 7) 54 0 0) := ch160_0 (j := 29) rfl
theorem r160_50 : rowAt 160 50 = some (r0 50 51 (.lload_n 0)) := ch160_0 (j := 30) rfl
theorem r160_51 : rowAt 160 51 = some (ra 51 54 (.goto 6) 57 0 0) := ch160_0 (j := 31) rfl
theorem r160_54 : rowAt 160 54 = some (r0 54 55 (.lload_n 0)) := ch160_0 (j := 32) rfl
theorem r160_55 : rowAt 160 55 = some (55, 56, .lconst 1, 0, 0, 0, 0, 1) := ch160_0 (j := 33) rfl
theorem r160_56 : rowAt 160 56 = some (r0 56 57 (.ladd)) := ch160_0 (j := 34) rfl
theorem r160_57 : rowAt 160 57 = some (r0 57 58 (.lreturn)) := ch160_0 (j := 35) rfl
theorem b160_0 {d : Nat} {q : Rs} {x0 : Int64} {σ : St} {σ2 : St} {r : Int32} (h1 : 46 = 46 ∨ 46 = 47)
    (hy : Er d 147 (0, ent 147 [.ref 46, .long x0], [], σ) (.inl (some (.int r)), σ2, 0))
    (k : Er (d + 1) 160 (9, [some (.long x0), none, some (.ref 46)], [.int r], σ2) q) :
    Er (d + 1) 160 (0, [some (.long x0), none, none], [], σ) q := Er.sT (c2 := (3, [some (.long x0), none, none], [.ref 46], σ)) r160_0 rfl rfl <| Er.sT (c2 := (4, [some (.long x0), none, some (.ref 46)], [], σ)) r160_3 rfl rfl <| Er.sT (c2 := (5, [some (.long x0), none, some (.ref 46)], [.ref 46], σ)) r160_4 rfl rfl <| Er.sT (c2 := (6, [some (.long x0), none, some (.ref 46)], [.long x0, .ref 46], σ)) r160_5 rfl rfl <| (Er.call (vs := [.ref 46, .long x0]) (rest := []) r160_6 rfl rfl (Nat.le_of_ble_eq_true rfl) (Nat.le_of_ble_eq_true rfl) (fun _ => ⟨_, _, rfl, h1⟩) hy k)
theorem b160_9 {d : Nat} {q : Rs} {x0 : Int64} {x2 : Nat} {s0 : Int32} {σ : St} 
    (kt : s0 = (0 : Int32) → Er (d + 1) 160 (17, [some (.long x0), none, some (.ref x2)], [], σ) q)
    (kf : ¬ s0 = (0 : Int32) → Er (d + 1) 160 (12, [some (.long x0), none, some (.ref x2)], [], σ) q) :
    Er (d + 1) 160 (9, [some (.long x0), none, some (.ref x2)], [.int s0], σ) q := Er.sT (c2 := (brn .eq s0 (0 : Int32) 17 12, [some (.long x0), none, some (.ref x2)], [], σ)) r160_9 rfl rfl <| (br_eq kt kf)
theorem b160_12 {d : Nat} {x0 : Int64} {x2 : Nat} {σ : St} (h1 : x2 = 46 ∨ x2 = 47) :
    Er (d + 1) 160 (12, [some (.long x0), none, some (.ref x2)], [], σ) (.inl (some (.long (efl x2 3))), σ, 0) := Er.sT (c2 := (13, [some (.long x0), none, some (.ref x2)], [.ref x2], σ)) r160_12 rfl rfl <| Er.st (P := (x2 = 46 ∨ x2 = 47)) (c2 := (16, [some (.long x0), none, some (.ref x2)], [.long (efl x2 3)], σ)) r160_13 rfl rfl h1 <| (Er.ret r160_16 rfl ⟨_, rfl, rfl, rfl⟩)
theorem b160_17 {d : Nat} {q : Rs} {x0 : Int64} {x2 : Nat} {σ : St} {σ2 : St} {r : Int64} (h1 : x2 = 46 ∨ x2 = 47)
    (hy : Er d 141 (0, ent 141 [.ref x2, .long x0], [], σ) (.inl (some (.long r)), σ2, 0))
    (k : Er (d + 1) 160 (22, [some (.long x0), none, some (.ref x2)], [.long r], σ2) q) :
    Er (d + 1) 160 (17, [some (.long x0), none, some (.ref x2)], [], σ) q := Er.sT (c2 := (18, [some (.long x0), none, some (.ref x2)], [.ref x2], σ)) r160_17 rfl rfl <| Er.sT (c2 := (19, [some (.long x0), none, some (.ref x2)], [.long x0, .ref x2], σ)) r160_18 rfl rfl <| (Er.call (vs := [.ref x2, .long x0]) (rest := []) r160_19 rfl rfl (Nat.le_of_ble_eq_true rfl) (Nat.le_of_ble_eq_true rfl) (fun _ => ⟨_, _, rfl, h1⟩) hy k)
theorem b160_22 {d : Nat} {q : Rs} {x0 : Int64} {x2 : Nat} {s0 : Int64} {σ : St} 
    (kt : ¬ s0 = (0 : Int64) → Er (d + 1) 160 (29, [some (.long x0), none, some (.ref x2)], [], σ) q)
    (kf : s0 = (0 : Int64) → Er (d + 1) 160 (27, [some (.long x0), none, some (.ref x2)], [], σ) q) :
    Er (d + 1) 160 (22, [some (.long x0), none, some (.ref x2)], [.long s0], σ) q := Er.sT (c2 := (23, [some (.long x0), none, some (.ref x2)], [.long (0 : Int64), .long s0], σ)) r160_22 rfl rfl <| Er.sT (c2 := (24, [some (.long x0), none, some (.ref x2)], [.int (lg_cmp s0 (0 : Int64))], σ)) r160_23 rfl rfl <| Er.sT (c2 := (brn .ne (lg_cmp s0 (0 : Int64)) (0 : Int32) 29 27, [some (.long x0), none, some (.ref x2)], [], σ)) r160_24 rfl rfl <| (bl_ne kt kf)
theorem b160_27 {d : Nat} {x0 : Int64} {x2 : Nat} {σ : St}  :
    Er (d + 1) 160 (27, [some (.long x0), none, some (.ref x2)], [], σ) (.inl (some (.long (1 : Int64))), σ, 0) := Er.sT (c2 := (28, [some (.long x0), none, some (.ref x2)], [.long (1 : Int64)], σ)) r160_27 rfl rfl <| (Er.ret r160_28 rfl ⟨_, rfl, rfl, rfl⟩)
theorem b160_29 {d : Nat} {q : Rs} {x0 : Int64} {x2 : Nat} {σ : St} {σ2 : St} {r : Int32} (h1 : x2 = 46 ∨ x2 = 47)
    (hy : Er d 145 (0, ent 145 [.ref x2, .long x0], [], σ) (.inl (some (.int r)), σ2, 0))
    (k : Er (d + 1) 160 (34, [some (.long x0), none, some (.ref x2)], [.int r], σ2) q) :
    Er (d + 1) 160 (29, [some (.long x0), none, some (.ref x2)], [], σ) q := Er.sT (c2 := (30, [some (.long x0), none, some (.ref x2)], [.ref x2], σ)) r160_29 rfl rfl <| Er.sT (c2 := (31, [some (.long x0), none, some (.ref x2)], [.long x0, .ref x2], σ)) r160_30 rfl rfl <| (Er.call (vs := [.ref x2, .long x0]) (rest := []) r160_31 rfl rfl (Nat.le_of_ble_eq_true rfl) (Nat.le_of_ble_eq_true rfl) (fun _ => ⟨_, _, rfl, h1⟩) hy k)
theorem b160_34 {d : Nat} {q : Rs} {x0 : Int64} {x2 : Nat} {s0 : Int32} {σ : St} 
    (kt : s0 = (0 : Int32) → Er (d + 1) 160 (41, [some (.long x0), none, some (.ref x2)], [], σ) q)
    (kf : ¬ s0 = (0 : Int32) → Er (d + 1) 160 (37, [some (.long x0), none, some (.ref x2)], [], σ) q) :
    Er (d + 1) 160 (34, [some (.long x0), none, some (.ref x2)], [.int s0], σ) q := Er.sT (c2 := (brn .eq s0 (0 : Int32) 41 37, [some (.long x0), none, some (.ref x2)], [], σ)) r160_34 rfl rfl <| (br_eq kt kf)
theorem b160_37 {d : Nat} {x0 : Int64} {x2 : Nat} {σ : St}  :
    Er (d + 1) 160 (37, [some (.long x0), none, some (.ref x2)], [], σ) (.inl (some (.long (x0 - (1 : Int64)))), σ, 0) := Er.sT (c2 := (38, [some (.long x0), none, some (.ref x2)], [.long x0], σ)) r160_37 rfl rfl <| Er.sT (c2 := (39, [some (.long x0), none, some (.ref x2)], [.long (1 : Int64), .long x0], σ)) r160_38 rfl rfl <| Er.sT (c2 := (40, [some (.long x0), none, some (.ref x2)], [.long (x0 - (1 : Int64))], σ)) r160_39 rfl rfl <| (Er.ret r160_40 rfl ⟨_, rfl, rfl, rfl⟩)
theorem b160_41 {d : Nat} {q : Rs} {x0 : Int64} {x2 : Nat} {σ : St} (h1 : x2 = 46 ∨ x2 = 47)
    (kt : ¬ x0 = (efl x2 4) → Er (d + 1) 160 (54, [some (.long x0), none, some (.ref x2)], [], σ) q)
    (kf : x0 = (efl x2 4) → Er (d + 1) 160 (50, [some (.long x0), none, some (.ref x2)], [], σ) q) :
    Er (d + 1) 160 (41, [some (.long x0), none, some (.ref x2)], [], σ) q := Er.sT (c2 := (42, [some (.long x0), none, some (.ref x2)], [.long x0], σ)) r160_41 rfl rfl <| Er.sT (c2 := (43, [some (.long x0), none, some (.ref x2)], [.ref x2, .long x0], σ)) r160_42 rfl rfl <| Er.st (P := (x2 = 46 ∨ x2 = 47)) (c2 := (46, [some (.long x0), none, some (.ref x2)], [.long (efl x2 4), .long x0], σ)) r160_43 rfl rfl h1 <| Er.sT (c2 := (47, [some (.long x0), none, some (.ref x2)], [.int (lg_cmp x0 (efl x2 4))], σ)) r160_46 rfl rfl <| Er.sT (c2 := (brn .ne (lg_cmp x0 (efl x2 4)) (0 : Int32) 54 50, [some (.long x0), none, some (.ref x2)], [], σ)) r160_47 rfl rfl <| (bl_ne kt kf)
theorem b160_50 {d : Nat} {q : Rs} {x0 : Int64} {x2 : Nat} {σ : St} 
    (k : Er (d + 1) 160 (57, [some (.long x0), none, some (.ref x2)], [.long x0], σ) q) :
    Er (d + 1) 160 (50, [some (.long x0), none, some (.ref x2)], [], σ) q := Er.sT (c2 := (51, [some (.long x0), none, some (.ref x2)], [.long x0], σ)) r160_50 rfl rfl <| Er.sT (c2 := (57, [some (.long x0), none, some (.ref x2)], [.long x0], σ)) r160_51 rfl rfl <| k
theorem b160_54 {d : Nat} {q : Rs} {x0 : Int64} {x2 : Nat} {σ : St} 
    (k : Er (d + 1) 160 (57, [some (.long x0), none, some (.ref x2)], [.long (x0 + (1 : Int64))], σ) q) :
    Er (d + 1) 160 (54, [some (.long x0), none, some (.ref x2)], [], σ) q := Er.sT (c2 := (55, [some (.long x0), none, some (.ref x2)], [.long x0], σ)) r160_54 rfl rfl <| Er.sT (c2 := (56, [some (.long x0), none, some (.ref x2)], [.long (1 : Int64), .long x0], σ)) r160_55 rfl rfl <| Er.sT (c2 := (57, [some (.long x0), none, some (.ref x2)], [.long (x0 + (1 : Int64))], σ)) r160_56 rfl rfl <| k
theorem b160_57 {d : Nat} {x0 : Int64} {x2 : Nat} {s0 : Int64} {σ : St}  :
    Er (d + 1) 160 (57, [some (.long x0), none, some (.ref x2)], [.long s0], σ) (.inl (some (.long s0)), σ, 0) := (Er.ret r160_57 rfl ⟨_, rfl, rfl, rfl⟩)
/-! NumberModels$Machine.stepAt(J)J -/
theorem tab_161 : tab 161 = tb161_0 := rfl
theorem ch161_0 {j : Nat} {r : Row} (h : tb161_0[j]? = some r) : rowAt 161 r.1 = some r := row_mem 161 (by decide) (by rw [tab_161]; exact List.mem_of_getElem? h)
theorem r161_0 : rowAt 161 0 = some (ra 0 3 (.getstatic 11) 46 0 789) := ch161_0 (j := 0) rfl
theorem r161_3 : rowAt 161 3 = some (ra 3 4 (.astore_n 2) 2 0 0) := ch161_0 (j := 1) rfl
theorem r161_4 : rowAt 161 4 = some (ra 4 5 (.aload_n 2) 2 0 0) := ch161_0 (j := 2) rfl
theorem r161_5 : rowAt 161 5 = some (r0 5 6 (.lload_n 0)) := ch161_0 (j := 3) rfl
theorem r161_6 : rowAt 161 6 = some (ra 6 9 (.invokevirtual 17) 147 2 793) := ch161_0 (j := 4) rfl
theorem r161_9 : rowAt 161 9 = some (ra 9 12 (.ifCond .eq 8) 17 0 0) := ch161_0 (j := 5) rfl
theorem r161_12 : rowAt 161 12 = some (ra 12 13 (.aload_n 2) 2 0 0) := ch161_0 (j := 6) rfl
theorem r161_13 : rowAt 161 13 = some (ra 13 16 (.getfield 32) 3 7 1183) := ch161_0 (j := 7) rfl
theorem r161_16 : rowAt 161 16 = some (r0 16 17 (.lreturn)) := ch161_0 (j := 8) rfl
theorem r161_17 : rowAt 161 17 = some (ra 17 18 (.aload_n 2) 2 0 0) := ch161_0 (j := 9) rfl
theorem r161_18 : rowAt 161 18 = some (r0 18 19 (.lload_n 0)) := ch161_0 (j := 10) rfl
theorem r161_19 : rowAt 161 19 = some (ra 19 22 (.invokevirtual 25) 140 2 794) := ch161_0 (j := 11) rfl
theorem r161_22 : rowAt 161 22 = some (ra 22 25 (.ifCond .ne 8) 30 0 0) := ch161_0 (j := 12) rfl
theorem r161_25 : rowAt 161 25 = some (ra 25 26 (.aload_n 2) 2 0 0) := ch161_0 (j := 13) rfl
theorem r161_26 : rowAt 161 26 = some (ra 26 29 (.getfield 70) 4 7 1184) := ch161_0 (j := 14) rfl
theorem r161_29 : rowAt 161 29 = some (r0 29 30 (.lreturn)) := ch161_0 (j := 15) rfl
theorem r161_30 : rowAt 161 30 = some (ra 30 31 (.aload_n 2) 2 0 0) := ch161_0 (j := 16) rfl
theorem r161_31 : rowAt 161 31 = some (r0 31 32 (.iconst 0)) := ch161_0 (j := 17) rfl
theorem r161_32 : rowAt 161 32 = some (32, 33, .lconst 1, 0, 0, 0, 0, 1) := ch161_0 (j := 18) rfl
theorem r161_33 : rowAt 161 33 = some (ra 33 34 (.aload_n 2) 2 0 0) := ch161_0 (j := 19) rfl
theorem r161_34 : rowAt 161 34 = some (r0 34 35 (.lload_n 0)) := ch161_0 (j := 20) rfl
theorem r161_35 : rowAt 161 35 = some (ra 35 38 (.invokevirtual 39) 146 2 797) := ch161_0 (j := 21) rfl
theorem r161_38 : rowAt 161 38 = some (r0 38 39 (.iconst 0)) := ch161_0 (j := 22) rfl
theorem r161_39 : rowAt 161 39 = some (r0 39 40 (.iconst 0)) := ch161_0 (j := 23) rfl
theorem r161_40 : rowAt 161 40 = some (ra 40 43 (.invokevirtual 50) 148 6 803) := ch161_0 (j := 24) rfl
theorem r161_43 : rowAt 161 43 = some (r0 43 44 (.lreturn)) := ch161_0 (j := 25) rfl
theorem b161_0 {d : Nat} {q : Rs} {x0 : Int64} {σ : St} {σ2 : St} {r : Int32} (h1 : 46 = 46 ∨ 46 = 47)
    (hy : Er d 147 (0, ent 147 [.ref 46, .long x0], [], σ) (.inl (some (.int r)), σ2, 0))
    (k : Er (d + 1) 161 (9, [some (.long x0), none, some (.ref 46)], [.int r], σ2) q) :
    Er (d + 1) 161 (0, [some (.long x0), none, none], [], σ) q := Er.sT (c2 := (3, [some (.long x0), none, none], [.ref 46], σ)) r161_0 rfl rfl <| Er.sT (c2 := (4, [some (.long x0), none, some (.ref 46)], [], σ)) r161_3 rfl rfl <| Er.sT (c2 := (5, [some (.long x0), none, some (.ref 46)], [.ref 46], σ)) r161_4 rfl rfl <| Er.sT (c2 := (6, [some (.long x0), none, some (.ref 46)], [.long x0, .ref 46], σ)) r161_5 rfl rfl <| (Er.call (vs := [.ref 46, .long x0]) (rest := []) r161_6 rfl rfl (Nat.le_of_ble_eq_true rfl) (Nat.le_of_ble_eq_true rfl) (fun _ => ⟨_, _, rfl, h1⟩) hy k)
theorem b161_9 {d : Nat} {q : Rs} {x0 : Int64} {x2 : Nat} {s0 : Int32} {σ : St} 
    (kt : s0 = (0 : Int32) → Er (d + 1) 161 (17, [some (.long x0), none, some (.ref x2)], [], σ) q)
    (kf : ¬ s0 = (0 : Int32) → Er (d + 1) 161 (12, [some (.long x0), none, some (.ref x2)], [], σ) q) :
    Er (d + 1) 161 (9, [some (.long x0), none, some (.ref x2)], [.int s0], σ) q := Er.sT (c2 := (brn .eq s0 (0 : Int32) 17 12, [some (.long x0), none, some (.ref x2)], [], σ)) r161_9 rfl rfl <| (br_eq kt kf)
theorem b161_12 {d : Nat} {x0 : Int64} {x2 : Nat} {σ : St} (h1 : x2 = 46 ∨ x2 = 47) :
    Er (d + 1) 161 (12, [some (.long x0), none, some (.ref x2)], [], σ) (.inl (some (.long (efl x2 3))), σ, 0) := Er.sT (c2 := (13, [some (.long x0), none, some (.ref x2)], [.ref x2], σ)) r161_12 rfl rfl <| Er.st (P := (x2 = 46 ∨ x2 = 47)) (c2 := (16, [some (.long x0), none, some (.ref x2)], [.long (efl x2 3)], σ)) r161_13 rfl rfl h1 <| (Er.ret r161_16 rfl ⟨_, rfl, rfl, rfl⟩)
theorem b161_17 {d : Nat} {q : Rs} {x0 : Int64} {x2 : Nat} {σ : St} {σ2 : St} {r : Int32} (h1 : x2 = 46 ∨ x2 = 47)
    (hy : Er d 140 (0, ent 140 [.ref x2, .long x0], [], σ) (.inl (some (.int r)), σ2, 0))
    (k : Er (d + 1) 161 (22, [some (.long x0), none, some (.ref x2)], [.int r], σ2) q) :
    Er (d + 1) 161 (17, [some (.long x0), none, some (.ref x2)], [], σ) q := Er.sT (c2 := (18, [some (.long x0), none, some (.ref x2)], [.ref x2], σ)) r161_17 rfl rfl <| Er.sT (c2 := (19, [some (.long x0), none, some (.ref x2)], [.long x0, .ref x2], σ)) r161_18 rfl rfl <| (Er.call (vs := [.ref x2, .long x0]) (rest := []) r161_19 rfl rfl (Nat.le_of_ble_eq_true rfl) (Nat.le_of_ble_eq_true rfl) (fun _ => ⟨_, _, rfl, h1⟩) hy k)
theorem b161_22 {d : Nat} {q : Rs} {x0 : Int64} {x2 : Nat} {s0 : Int32} {σ : St} 
    (kt : ¬ s0 = (0 : Int32) → Er (d + 1) 161 (30, [some (.long x0), none, some (.ref x2)], [], σ) q)
    (kf : s0 = (0 : Int32) → Er (d + 1) 161 (25, [some (.long x0), none, some (.ref x2)], [], σ) q) :
    Er (d + 1) 161 (22, [some (.long x0), none, some (.ref x2)], [.int s0], σ) q := Er.sT (c2 := (brn .ne s0 (0 : Int32) 30 25, [some (.long x0), none, some (.ref x2)], [], σ)) r161_22 rfl rfl <| (br_ne kt kf)
theorem b161_25 {d : Nat} {x0 : Int64} {x2 : Nat} {σ : St} (h1 : x2 = 46 ∨ x2 = 47) :
    Er (d + 1) 161 (25, [some (.long x0), none, some (.ref x2)], [], σ) (.inl (some (.long (efl x2 4))), σ, 0) := Er.sT (c2 := (26, [some (.long x0), none, some (.ref x2)], [.ref x2], σ)) r161_25 rfl rfl <| Er.st (P := (x2 = 46 ∨ x2 = 47)) (c2 := (29, [some (.long x0), none, some (.ref x2)], [.long (efl x2 4)], σ)) r161_26 rfl rfl h1 <| (Er.ret r161_29 rfl ⟨_, rfl, rfl, rfl⟩)
theorem b161_30 {d : Nat} {q : Rs} {x0 : Int64} {x2 : Nat} {σ : St} {σ2 : St} {r : Int32} (h1 : x2 = 46 ∨ x2 = 47)
    (hy : Er d 146 (0, ent 146 [.ref x2, .long x0], [], σ) (.inl (some (.int r)), σ2, 0))
    (k : Er (d + 1) 161 (38, [some (.long x0), none, some (.ref x2)], [.int r, .long (1 : Int64), .int (0 : Int32), .ref x2], σ2) q) :
    Er (d + 1) 161 (30, [some (.long x0), none, some (.ref x2)], [], σ) q := Er.sT (c2 := (31, [some (.long x0), none, some (.ref x2)], [.ref x2], σ)) r161_30 rfl rfl <| Er.sT (c2 := (32, [some (.long x0), none, some (.ref x2)], [.int (0 : Int32), .ref x2], σ)) r161_31 rfl rfl <| Er.sT (c2 := (33, [some (.long x0), none, some (.ref x2)], [.long (1 : Int64), .int (0 : Int32), .ref x2], σ)) r161_32 rfl rfl <| Er.sT (c2 := (34, [some (.long x0), none, some (.ref x2)], [.ref x2, .long (1 : Int64), .int (0 : Int32), .ref x2], σ)) r161_33 rfl rfl <| Er.sT (c2 := (35, [some (.long x0), none, some (.ref x2)], [.long x0, .ref x2, .long (1 : Int64), .int (0 : Int32), .ref x2], σ)) r161_34 rfl rfl <| (Er.call (vs := [.ref x2, .long x0]) (rest := [.long (1 : Int64), .int (0 : Int32), .ref x2]) r161_35 rfl rfl (Nat.le_of_ble_eq_true rfl) (Nat.le_of_ble_eq_true rfl) (fun _ => ⟨_, _, rfl, h1⟩) hy k)
theorem b161_38 {d : Nat} {q : Rs} {x0 : Int64} {x2 : Nat} {s0 : Nat} {s1 : Int32} {s2 : Int64} {s3 : Int32} {σ : St} {σ2 : St} {r : Int64} (h1 : s0 = 46 ∨ s0 = 47)
    (hy : Er d 148 (0, ent 148 [.ref s0, .int s1, .long s2, .int s3, .int (0 : Int32), .int (0 : Int32)], [], σ) (.inl (some (.long r)), σ2, 0))
    (k : Er (d + 1) 161 (43, [some (.long x0), none, some (.ref x2)], [.long r], σ2) q) :
    Er (d + 1) 161 (38, [some (.long x0), none, some (.ref x2)], [.int s3, .long s2, .int s1, .ref s0], σ) q := Er.sT (c2 := (39, [some (.long x0), none, some (.ref x2)], [.int (0 : Int32), .int s3, .long s2, .int s1, .ref s0], σ)) r161_38 rfl rfl <| Er.sT (c2 := (40, [some (.long x0), none, some (.ref x2)], [.int (0 : Int32), .int (0 : Int32), .int s3, .long s2, .int s1, .ref s0], σ)) r161_39 rfl rfl <| (Er.call (vs := [.ref s0, .int s1, .long s2, .int s3, .int (0 : Int32), .int (0 : Int32)]) (rest := []) r161_40 rfl rfl (Nat.le_of_ble_eq_true rfl) (Nat.le_of_ble_eq_true rfl) (fun _ => ⟨_, _, rfl, h1⟩) hy k)
theorem b161_43 {d : Nat} {x0 : Int64} {x2 : Nat} {s0 : Int64} {σ : St}  :
    Er (d + 1) 161 (43, [some (.long x0), none, some (.ref x2)], [.long s0], σ) (.inl (some (.long s0)), σ, 0) := (Er.ret r161_43 rfl ⟨_, rfl, rfl, rfl⟩)
/-! NumberModels$Machine.timesTwoTo(JJ)J -/
theorem tab_162 : tab 162 = tb162_0 := rfl
theorem ch162_0 {j : Nat} {r : Row} (h : tb162_0[j]? = some r) : rowAt 162 r.1 = some r := row_mem 162 (by decide) (by rw [tab_162]; exact List.mem_of_getElem? h)
theorem r162_0 : rowAt 162 0 = some (ra 0 3 (.getstatic 11) 46 0 789) := ch162_0 (j := 0) rfl
theorem r162_3 : rowAt 162 3 = some (ra 3 5 (.astore 4) 4 0 0) := ch162_0 (j := 1) rfl
theorem r162_5 : rowAt 162 5 = some (ra 5 7 (.aload 4) 4 0 0) := ch162_0 (j := 2) rfl
theorem r162_7 : rowAt 162 7 = some (r0 7 8 (.lload_n 0)) := ch162_0 (j := 3) rfl
theorem r162_8 : rowAt 162 8 = some (ra 8 11 (.invokevirtual 17) 147 2 793) := ch162_0 (j := 4) rfl
theorem r162_11 : rowAt 162 11 = some (ra 11 14 (.ifCond .eq 9) 20 0 0) := ch162_0 (j := 5) rfl
theorem r162_14 : rowAt 162 14 = some (ra 14 16 (.aload 4) 4 0 0) := ch162_0 (j := 6) rfl
theorem r162_16 : rowAt 162 16 = some (ra 16 19 (.getfield 32) 3 7 1183) := ch162_0 (j := 7) rfl
theorem r162_19 : rowAt 162 19 = some (r0 19 20 (.lreturn)) := ch162_0 (j := 8) rfl
theorem r162_20 : rowAt 162 20 = some (ra 20 22 (.aload 4) 4 0 0) := ch162_0 (j := 9) rfl
theorem r162_22 : rowAt 162 22 = some (r0 22 23 (.lload_n 0)) := ch162_0 (j := 10) rfl
theorem r162_23 : rowAt 162 23 = some (ra 23 26 (.invokevirtual 25) 140 2 794) := ch162_0 (j := 11) rfl
theorem r162_26 : rowAt 162 26 = some (ra 26 29 (.ifCond .ne 5) 31 0 0) := ch162_0 (j := 12) rfl
theorem r162_29 : rowAt 162 29 = some (r0 29 30 (.lload_n 0)) := ch162_0 (j := 13) rfl
theorem r162_30 : rowAt 162 30 = some (r0 30 31 (.lreturn)) := ch162_0 (j := 14) rfl
theorem r162_31 : rowAt 162 31 = some (31, 34, .ldc2_w 73, 0, 0, 830, 0, (-3000)) := ch162_0 (j := 15) rfl
theorem r162_34 : rowAt 162 34 = some (ra 34 35 (.lload_n 2) 2 0 0) := ch162_0 (j := 16) rfl
theorem r162_35 : rowAt 162 35 = some (35, 38, .ldc2_w 75, 0, 0, 831, 0, 3000) := ch162_0 (j := 17) rfl
theorem r162_38 : rowAt 162 38 = some (ra 38 41 (.invokestatic 77) 993 2 832) := ch162_0 (j := 18) rfl
theorem r162_41 : rowAt 162 41 = some (ra 41 44 (.invokestatic 80) 994 2 835) := ch162_0 (j := 19) rfl
theorem r162_44 : rowAt 162 44 = some (r0 44 45 (.l2i)) := ch162_0 (j := 20) rfl
theorem r162_45 : rowAt 162 45 = some (ra 45 47 (.istore 5) 5 0 0) := ch162_0 (j := 21) rfl
theorem r162_47 : rowAt 162 47 = some (ra 47 49 (.aload 4) 4 0 0) := ch162_0 (j := 22) rfl
theorem r162_49 : rowAt 162 49 = some (ra 49 51 (.aload 4) 4 0 0) := ch162_0 (j := 23) rfl
theorem r162_51 : rowAt 162 51 = some (r0 51 52 (.lload_n 0)) := ch162_0 (j := 24) rfl
theorem r162_52 : rowAt 162 52 = some (ra 52 55 (.invokevirtual 47) 145 2 802) := ch162_0 (j := 25) rfl
theorem r162_55 : rowAt 162 55 = some (ra 55 57 (.aload 4) 4 0 0) := ch162_0 (j := 26) rfl
theorem r162_57 : rowAt 162 57 = some (r0 57 58 (.lload_n 0)) := ch162_0 (j := 27) rfl
theorem r162_58 : rowAt 162 58 = some (ra 58 61 (.invokevirtual 36) 142 2 796) := ch162_0 (j := 28) rfl
theorem r162_61 : rowAt 162 61 = some (ra 61 63 (.aload 4) 4 0 0) := ch162_0 (j := 29) rfl
theorem r162_63 : rowAt 162 63 = some (r0 63 64 (.lload_n 0)) := ch162_0 (j := 30) rfl
theorem r162_64 : rowAt 162 64 = some (ra 64 67 (.invokevirtual 39) 146 2 797) := ch162_0 (j := 31) rfl
theorem r162_67 : rowAt 162 67 = some (ra 67 69 (.iload 5) 5 0 0) := ch162_0 (j := 32) rfl
theorem r162_69 : rowAt 162 69 = some (r0 69 70 (.iadd)) := ch162_0 (j := 33) rfl
theorem r162_70 : rowAt 162 70 = some (r0 70 71 (.iconst 0)) := ch162_0 (j := 34) rfl
theorem r162_71 : rowAt 162 71 = some (r0 71 72 (.iconst 0)) := ch162_0 (j := 35) rfl
theorem r162_72 : rowAt 162 72 = some (ra 72 75 (.invokevirtual 50) 148 6 803) := ch162_0 (j := 36) rfl
theorem r162_75 : rowAt 162 75 = some (r0 75 76 (.lreturn)) := ch162_0 (j := 37) rfl
theorem b162_0 {d : Nat} {q : Rs} {x0 : Int64} {x2 : Int64} {σ : St} {σ2 : St} {r : Int32} (h1 : 46 = 46 ∨ 46 = 47)
    (hy : Er d 147 (0, ent 147 [.ref 46, .long x0], [], σ) (.inl (some (.int r)), σ2, 0))
    (k : Er (d + 1) 162 (11, [some (.long x0), none, some (.long x2), none, some (.ref 46), none], [.int r], σ2) q) :
    Er (d + 1) 162 (0, [some (.long x0), none, some (.long x2), none, none, none], [], σ) q := Er.sT (c2 := (3, [some (.long x0), none, some (.long x2), none, none, none], [.ref 46], σ)) r162_0 rfl rfl <| Er.sT (c2 := (5, [some (.long x0), none, some (.long x2), none, some (.ref 46), none], [], σ)) r162_3 rfl rfl <| Er.sT (c2 := (7, [some (.long x0), none, some (.long x2), none, some (.ref 46), none], [.ref 46], σ)) r162_5 rfl rfl <| Er.sT (c2 := (8, [some (.long x0), none, some (.long x2), none, some (.ref 46), none], [.long x0, .ref 46], σ)) r162_7 rfl rfl <| (Er.call (vs := [.ref 46, .long x0]) (rest := []) r162_8 rfl rfl (Nat.le_of_ble_eq_true rfl) (Nat.le_of_ble_eq_true rfl) (fun _ => ⟨_, _, rfl, h1⟩) hy k)
theorem b162_11 {d : Nat} {q : Rs} {x0 : Int64} {x2 : Int64} {x4 : Nat} {s0 : Int32} {σ : St} 
    (kt : s0 = (0 : Int32) → Er (d + 1) 162 (20, [some (.long x0), none, some (.long x2), none, some (.ref x4), none], [], σ) q)
    (kf : ¬ s0 = (0 : Int32) → Er (d + 1) 162 (14, [some (.long x0), none, some (.long x2), none, some (.ref x4), none], [], σ) q) :
    Er (d + 1) 162 (11, [some (.long x0), none, some (.long x2), none, some (.ref x4), none], [.int s0], σ) q := Er.sT (c2 := (brn .eq s0 (0 : Int32) 20 14, [some (.long x0), none, some (.long x2), none, some (.ref x4), none], [], σ)) r162_11 rfl rfl <| (br_eq kt kf)
theorem b162_14 {d : Nat} {x0 : Int64} {x2 : Int64} {x4 : Nat} {σ : St} (h1 : x4 = 46 ∨ x4 = 47) :
    Er (d + 1) 162 (14, [some (.long x0), none, some (.long x2), none, some (.ref x4), none], [], σ) (.inl (some (.long (efl x4 3))), σ, 0) := Er.sT (c2 := (16, [some (.long x0), none, some (.long x2), none, some (.ref x4), none], [.ref x4], σ)) r162_14 rfl rfl <| Er.st (P := (x4 = 46 ∨ x4 = 47)) (c2 := (19, [some (.long x0), none, some (.long x2), none, some (.ref x4), none], [.long (efl x4 3)], σ)) r162_16 rfl rfl h1 <| (Er.ret r162_19 rfl ⟨_, rfl, rfl, rfl⟩)
theorem b162_20 {d : Nat} {q : Rs} {x0 : Int64} {x2 : Int64} {x4 : Nat} {σ : St} {σ2 : St} {r : Int32} (h1 : x4 = 46 ∨ x4 = 47)
    (hy : Er d 140 (0, ent 140 [.ref x4, .long x0], [], σ) (.inl (some (.int r)), σ2, 0))
    (k : Er (d + 1) 162 (26, [some (.long x0), none, some (.long x2), none, some (.ref x4), none], [.int r], σ2) q) :
    Er (d + 1) 162 (20, [some (.long x0), none, some (.long x2), none, some (.ref x4), none], [], σ) q := Er.sT (c2 := (22, [some (.long x0), none, some (.long x2), none, some (.ref x4), none], [.ref x4], σ)) r162_20 rfl rfl <| Er.sT (c2 := (23, [some (.long x0), none, some (.long x2), none, some (.ref x4), none], [.long x0, .ref x4], σ)) r162_22 rfl rfl <| (Er.call (vs := [.ref x4, .long x0]) (rest := []) r162_23 rfl rfl (Nat.le_of_ble_eq_true rfl) (Nat.le_of_ble_eq_true rfl) (fun _ => ⟨_, _, rfl, h1⟩) hy k)
theorem b162_26 {d : Nat} {q : Rs} {x0 : Int64} {x2 : Int64} {x4 : Nat} {s0 : Int32} {σ : St} 
    (kt : ¬ s0 = (0 : Int32) → Er (d + 1) 162 (31, [some (.long x0), none, some (.long x2), none, some (.ref x4), none], [], σ) q)
    (kf : s0 = (0 : Int32) → Er (d + 1) 162 (29, [some (.long x0), none, some (.long x2), none, some (.ref x4), none], [], σ) q) :
    Er (d + 1) 162 (26, [some (.long x0), none, some (.long x2), none, some (.ref x4), none], [.int s0], σ) q := Er.sT (c2 := (brn .ne s0 (0 : Int32) 31 29, [some (.long x0), none, some (.long x2), none, some (.ref x4), none], [], σ)) r162_26 rfl rfl <| (br_ne kt kf)
theorem b162_29 {d : Nat} {x0 : Int64} {x2 : Int64} {x4 : Nat} {σ : St}  :
    Er (d + 1) 162 (29, [some (.long x0), none, some (.long x2), none, some (.ref x4), none], [], σ) (.inl (some (.long x0)), σ, 0) := Er.sT (c2 := (30, [some (.long x0), none, some (.long x2), none, some (.ref x4), none], [.long x0], σ)) r162_29 rfl rfl <| (Er.ret r162_30 rfl ⟨_, rfl, rfl, rfl⟩)
theorem b162_31 {d : Nat} {q : Rs} {x0 : Int64} {x2 : Int64} {x4 : Nat} {σ : St} {σ2 : St} {r : Int32} (h1 : x4 = 46 ∨ x4 = 47)
    (hy : Er d 145 (0, ent 145 [.ref x4, .long x0], [], σ) (.inl (some (.int r)), σ2, 0))
    (k : Er (d + 1) 162 (55, [some (.long x0), none, some (.long x2), none, some (.ref x4), some (.int ((if (if (3000 : Int64) < x2 then (3000 : Int64) else x2) < (-3000 : Int64) then (-3000 : Int64) else (if (3000 : Int64) < x2 then (3000 : Int64) else x2)).toInt32))], [.int r, .ref x4], σ2) q) :
    Er (d + 1) 162 (31, [some (.long x0), none, some (.long x2), none, some (.ref x4), none], [], σ) q := Er.sT (c2 := (34, [some (.long x0), none, some (.long x2), none, some (.ref x4), none], [.long (-3000 : Int64)], σ)) r162_31 rfl rfl <| Er.sT (c2 := (35, [some (.long x0), none, some (.long x2), none, some (.ref x4), none], [.long x2, .long (-3000 : Int64)], σ)) r162_34 rfl rfl <| Er.sT (c2 := (38, [some (.long x0), none, some (.long x2), none, some (.ref x4), none], [.long (3000 : Int64), .long x2, .long (-3000 : Int64)], σ)) r162_35 rfl rfl <| Er.st (P := ((([.long (-3000 : Int64)] : List Value).map fun v => v.category).sum ≤ 8)) (c2 := (41, [some (.long x0), none, some (.long x2), none, some (.ref x4), none], [.long (if (3000 : Int64) < x2 then (3000 : Int64) else x2), .long (-3000 : Int64)], σ)) r162_38 rfl rfl (Nat.le_of_ble_eq_true rfl) <| Er.st (P := ((([] : List Value).map fun v => v.category).sum ≤ 8)) (c2 := (44, [some (.long x0), none, some (.long x2), none, some (.ref x4), none], [.long (if (if (3000 : Int64) < x2 then (3000 : Int64) else x2) < (-3000 : Int64) then (-3000 : Int64) else (if (3000 : Int64) < x2 then (3000 : Int64) else x2))], σ)) r162_41 rfl rfl (Nat.le_of_ble_eq_true rfl) <| Er.sT (c2 := (45, [some (.long x0), none, some (.long x2), none, some (.ref x4), none], [.int ((if (if (3000 : Int64) < x2 then (3000 : Int64) else x2) < (-3000 : Int64) then (-3000 : Int64) else (if (3000 : Int64) < x2 then (3000 : Int64) else x2)).toInt32)], σ)) r162_44 rfl rfl <| Er.sT (c2 := (47, [some (.long x0), none, some (.long x2), none, some (.ref x4), some (.int ((if (if (3000 : Int64) < x2 then (3000 : Int64) else x2) < (-3000 : Int64) then (-3000 : Int64) else (if (3000 : Int64) < x2 then (3000 : Int64) else x2)).toInt32))], [], σ)) r162_45 rfl rfl <| Er.sT (c2 := (49, [some (.long x0), none, some (.long x2), none, some (.ref x4), some (.int ((if (if (3000 : Int64) < x2 then (3000 : Int64) else x2) < (-3000 : Int64) then (-3000 : Int64) else (if (3000 : Int64) < x2 then (3000 : Int64) else x2)).toInt32))], [.ref x4], σ)) r162_47 rfl rfl <| Er.sT (c2 := (51, [some (.long x0), none, some (.long x2), none, some (.ref x4), some (.int ((if (if (3000 : Int64) < x2 then (3000 : Int64) else x2) < (-3000 : Int64) then (-3000 : Int64) else (if (3000 : Int64) < x2 then (3000 : Int64) else x2)).toInt32))], [.ref x4, .ref x4], σ)) r162_49 rfl rfl <| Er.sT (c2 := (52, [some (.long x0), none, some (.long x2), none, some (.ref x4), some (.int ((if (if (3000 : Int64) < x2 then (3000 : Int64) else x2) < (-3000 : Int64) then (-3000 : Int64) else (if (3000 : Int64) < x2 then (3000 : Int64) else x2)).toInt32))], [.long x0, .ref x4, .ref x4], σ)) r162_51 rfl rfl <| (Er.call (vs := [.ref x4, .long x0]) (rest := [.ref x4]) r162_52 rfl rfl (Nat.le_of_ble_eq_true rfl) (Nat.le_of_ble_eq_true rfl) (fun _ => ⟨_, _, rfl, h1⟩) hy k)
theorem b162_55 {d : Nat} {q : Rs} {x0 : Int64} {x2 : Int64} {x4 : Nat} {x5 : Int32} {s0 : Nat} {s1 : Int32} {σ : St} {σ2 : St} {r : Int64} (h1 : x4 = 46 ∨ x4 = 47)
    (hy : Er d 142 (0, ent 142 [.ref x4, .long x0], [], σ) (.inl (some (.long r)), σ2, 0))
    (k : Er (d + 1) 162 (61, [some (.long x0), none, some (.long x2), none, some (.ref x4), some (.int x5)], [.long r, .int s1, .ref s0], σ2) q) :
    Er (d + 1) 162 (55, [some (.long x0), none, some (.long x2), none, some (.ref x4), some (.int x5)], [.int s1, .ref s0], σ) q := Er.sT (c2 := (57, [some (.long x0), none, some (.long x2), none, some (.ref x4), some (.int x5)], [.ref x4, .int s1, .ref s0], σ)) r162_55 rfl rfl <| Er.sT (c2 := (58, [some (.long x0), none, some (.long x2), none, some (.ref x4), some (.int x5)], [.long x0, .ref x4, .int s1, .ref s0], σ)) r162_57 rfl rfl <| (Er.call (vs := [.ref x4, .long x0]) (rest := [.int s1, .ref s0]) r162_58 rfl rfl (Nat.le_of_ble_eq_true rfl) (Nat.le_of_ble_eq_true rfl) (fun _ => ⟨_, _, rfl, h1⟩) hy k)
theorem b162_61 {d : Nat} {q : Rs} {x0 : Int64} {x2 : Int64} {x4 : Nat} {x5 : Int32} {s0 : Nat} {s1 : Int32} {s2 : Int64} {σ : St} {σ2 : St} {r : Int32} (h1 : x4 = 46 ∨ x4 = 47)
    (hy : Er d 146 (0, ent 146 [.ref x4, .long x0], [], σ) (.inl (some (.int r)), σ2, 0))
    (k : Er (d + 1) 162 (67, [some (.long x0), none, some (.long x2), none, some (.ref x4), some (.int x5)], [.int r, .long s2, .int s1, .ref s0], σ2) q) :
    Er (d + 1) 162 (61, [some (.long x0), none, some (.long x2), none, some (.ref x4), some (.int x5)], [.long s2, .int s1, .ref s0], σ) q := Er.sT (c2 := (63, [some (.long x0), none, some (.long x2), none, some (.ref x4), some (.int x5)], [.ref x4, .long s2, .int s1, .ref s0], σ)) r162_61 rfl rfl <| Er.sT (c2 := (64, [some (.long x0), none, some (.long x2), none, some (.ref x4), some (.int x5)], [.long x0, .ref x4, .long s2, .int s1, .ref s0], σ)) r162_63 rfl rfl <| (Er.call (vs := [.ref x4, .long x0]) (rest := [.long s2, .int s1, .ref s0]) r162_64 rfl rfl (Nat.le_of_ble_eq_true rfl) (Nat.le_of_ble_eq_true rfl) (fun _ => ⟨_, _, rfl, h1⟩) hy k)
theorem b162_67 {d : Nat} {q : Rs} {x0 : Int64} {x2 : Int64} {x4 : Nat} {x5 : Int32} {s0 : Nat} {s1 : Int32} {s2 : Int64} {s3 : Int32} {σ : St} {σ2 : St} {r : Int64} (h1 : s0 = 46 ∨ s0 = 47)
    (hy : Er d 148 (0, ent 148 [.ref s0, .int s1, .long s2, .int (s3 + x5), .int (0 : Int32), .int (0 : Int32)], [], σ) (.inl (some (.long r)), σ2, 0))
    (k : Er (d + 1) 162 (75, [some (.long x0), none, some (.long x2), none, some (.ref x4), some (.int x5)], [.long r], σ2) q) :
    Er (d + 1) 162 (67, [some (.long x0), none, some (.long x2), none, some (.ref x4), some (.int x5)], [.int s3, .long s2, .int s1, .ref s0], σ) q := Er.sT (c2 := (69, [some (.long x0), none, some (.long x2), none, some (.ref x4), some (.int x5)], [.int x5, .int s3, .long s2, .int s1, .ref s0], σ)) r162_67 rfl rfl <| Er.sT (c2 := (70, [some (.long x0), none, some (.long x2), none, some (.ref x4), some (.int x5)], [.int (s3 + x5), .long s2, .int s1, .ref s0], σ)) r162_69 rfl rfl <| Er.sT (c2 := (71, [some (.long x0), none, some (.long x2), none, some (.ref x4), some (.int x5)], [.int (0 : Int32), .int (s3 + x5), .long s2, .int s1, .ref s0], σ)) r162_70 rfl rfl <| Er.sT (c2 := (72, [some (.long x0), none, some (.long x2), none, some (.ref x4), some (.int x5)], [.int (0 : Int32), .int (0 : Int32), .int (s3 + x5), .long s2, .int s1, .ref s0], σ)) r162_71 rfl rfl <| (Er.call (vs := [.ref s0, .int s1, .long s2, .int (s3 + x5), .int (0 : Int32), .int (0 : Int32)]) (rest := []) r162_72 rfl rfl (Nat.le_of_ble_eq_true rfl) (Nat.le_of_ble_eq_true rfl) (fun _ => ⟨_, _, rfl, h1⟩) hy k)
theorem b162_75 {d : Nat} {x0 : Int64} {x2 : Int64} {x4 : Nat} {x5 : Int32} {s0 : Int64} {σ : St}  :
    Er (d + 1) 162 (75, [some (.long x0), none, some (.long x2), none, some (.ref x4), some (.int x5)], [.long s0], σ) (.inl (some (.long s0)), σ, 0) := (Er.ret r162_75 rfl ⟨_, rfl, rfl, rfl⟩)
/-! NumberModels$Machine.relation(JJ)J -/
theorem tab_163 : tab 163 = tb163_0 := rfl
theorem ch163_0 {j : Nat} {r : Row} (h : tb163_0[j]? = some r) : rowAt 163 r.1 = some r := row_mem 163 (by decide) (by rw [tab_163]; exact List.mem_of_getElem? h)
theorem r163_0 : rowAt 163 0 = some (ra 0 3 (.getstatic 11) 46 0 789) := ch163_0 (j := 0) rfl
theorem r163_3 : rowAt 163 3 = some (ra 3 5 (.astore 4) 4 0 0) := ch163_0 (j := 1) rfl
theorem r163_5 : rowAt 163 5 = some (r0 5 6 (.lload_n 0)) := ch163_0 (j := 2) rfl
theorem r163_6 : rowAt 163 6 = some (ra 6 7 (.lload_n 2) 2 0 0) := ch163_0 (j := 3) rfl
theorem r163_7 : rowAt 163 7 = some (ra 7 10 (.invokestatic 21) 153 2 790) := ch163_0 (j := 4) rfl
theorem r163_10 : rowAt 163 10 = some (ra 10 13 (.ifCond .eq 7) 17 0 0) := ch163_0 (j := 5) rfl
theorem r163_13 : rowAt 163 13 = some (13, 16, .ldc2_w 83, 0, 0, 841, 0, 4) := ch163_0 (j := 6) rfl
theorem r163_16 : rowAt 163 16 = some (r0 16 17 (.lreturn)) := ch163_0 (j := 7) rfl
theorem r163_17 : rowAt 163 17 = some (ra 17 19 (.aload 4) 4 0 0) := ch163_0 (j := 8) rfl
theorem r163_19 : rowAt 163 19 = some (r0 19 20 (.lload_n 0)) := ch163_0 (j := 9) rfl
theorem r163_20 : rowAt 163 20 = some (ra 20 23 (.invokevirtual 28) 141 2 795) := ch163_0 (j := 10) rfl
theorem r163_23 : rowAt 163 23 = some (r0 23 24 (.lconst 0)) := ch163_0 (j := 11) rfl
theorem r163_24 : rowAt 163 24 = some (r0 24 25 (.lcmp)) := ch163_0 (j := 12) rfl
theorem r163_25 : rowAt 163 25 = some (ra 25 28 (.ifCond .ne 18) 43 0 0) := ch163_0 (j := 13) rfl
theorem r163_28 : rowAt 163 28 = some (ra 28 30 (.aload 4) 4 0 0) := ch163_0 (j := 14) rfl
theorem r163_30 : rowAt 163 30 = some (ra 30 31 (.lload_n 2) 2 0 0) := ch163_0 (j := 15) rfl
theorem r163_31 : rowAt 163 31 = some (ra 31 34 (.invokevirtual 28) 141 2 795) := ch163_0 (j := 16) rfl
theorem r163_34 : rowAt 163 34 = some (r0 34 35 (.lconst 0)) := ch163_0 (j := 17) rfl
theorem r163_35 : rowAt 163 35 = some (r0 35 36 (.lcmp)) := ch163_0 (j := 18) rfl
theorem r163_36 : rowAt 163 36 = some (ra 36 39 (.ifCond .ne 7) 43 0 0) := ch163_0 (j := 19) rfl
theorem r163_39 : rowAt 163 39 = some (39, 42, .ldc2_w 85, 0, 0, 842, 0, 2) := ch163_0 (j := 20) rfl
theorem r163_42 : rowAt 163 42 = some (r0 42 43 (.lreturn)) := ch163_0 (j := 21) rfl
theorem r163_43 : rowAt 163 43 = some (43, 46, .ldc2_w 85, 0, 0, 842, 0, 2) := ch163_0 (j := 22) rfl
theorem r163_46 : rowAt 163 46 = some (r0 46 47 (.lload_n 0)) := ch163_0 (j := 23) rfl
theorem r163_47 : rowAt 163 47 = some (ra 47 50 (.invokestatic 63) 157 1 811) := ch163_0 (j := 24) rfl
theorem r163_50 : rowAt 163 50 = some (ra 50 51 (.lload_n 2) 2 0 0) := ch163_0 (j := 25) rfl
theorem r163_51 : rowAt 163 51 = some (ra 51 54 (.invokestatic 63) 157 1 811) := ch163_0 (j := 26) rfl
theorem r163_54 : rowAt 163 54 = some (54, 57, .invokestatic 87, 40, 2, 843, 1, 0) := ch163_0 (j := 27) rfl
theorem r163_57 : rowAt 163 57 = some (r0 57 58 (.i2l)) := ch163_0 (j := 28) rfl
theorem r163_58 : rowAt 163 58 = some (r0 58 59 (.ladd)) := ch163_0 (j := 29) rfl
theorem r163_59 : rowAt 163 59 = some (r0 59 60 (.lreturn)) := ch163_0 (j := 30) rfl
theorem b163_0 {d : Nat} {q : Rs} {x0 : Int64} {x2 : Int64} {σ : St} {σ2 : St} {r : Int32} 
    (hy : Er d 153 (0, ent 153 [.long x0, .long x2], [], σ) (.inl (some (.int r)), σ2, 0))
    (k : Er (d + 1) 163 (10, [some (.long x0), none, some (.long x2), none, some (.ref 46)], [.int r], σ2) q) :
    Er (d + 1) 163 (0, [some (.long x0), none, some (.long x2), none, none], [], σ) q := Er.sT (c2 := (3, [some (.long x0), none, some (.long x2), none, none], [.ref 46], σ)) r163_0 rfl rfl <| Er.sT (c2 := (5, [some (.long x0), none, some (.long x2), none, some (.ref 46)], [], σ)) r163_3 rfl rfl <| Er.sT (c2 := (6, [some (.long x0), none, some (.long x2), none, some (.ref 46)], [.long x0], σ)) r163_5 rfl rfl <| Er.sT (c2 := (7, [some (.long x0), none, some (.long x2), none, some (.ref 46)], [.long x2, .long x0], σ)) r163_6 rfl rfl <| (Er.call (vs := [.long x0, .long x2]) (rest := []) r163_7 rfl rfl (Nat.le_of_ble_eq_true rfl) (Nat.le_of_ble_eq_true rfl) (fun h => absurd h (by decide +kernel)) hy k)
theorem b163_10 {d : Nat} {q : Rs} {x0 : Int64} {x2 : Int64} {x4 : Nat} {s0 : Int32} {σ : St} 
    (kt : s0 = (0 : Int32) → Er (d + 1) 163 (17, [some (.long x0), none, some (.long x2), none, some (.ref x4)], [], σ) q)
    (kf : ¬ s0 = (0 : Int32) → Er (d + 1) 163 (13, [some (.long x0), none, some (.long x2), none, some (.ref x4)], [], σ) q) :
    Er (d + 1) 163 (10, [some (.long x0), none, some (.long x2), none, some (.ref x4)], [.int s0], σ) q := Er.sT (c2 := (brn .eq s0 (0 : Int32) 17 13, [some (.long x0), none, some (.long x2), none, some (.ref x4)], [], σ)) r163_10 rfl rfl <| (br_eq kt kf)
theorem b163_13 {d : Nat} {x0 : Int64} {x2 : Int64} {x4 : Nat} {σ : St}  :
    Er (d + 1) 163 (13, [some (.long x0), none, some (.long x2), none, some (.ref x4)], [], σ) (.inl (some (.long (4 : Int64))), σ, 0) := Er.sT (c2 := (16, [some (.long x0), none, some (.long x2), none, some (.ref x4)], [.long (4 : Int64)], σ)) r163_13 rfl rfl <| (Er.ret r163_16 rfl ⟨_, rfl, rfl, rfl⟩)
theorem b163_17 {d : Nat} {q : Rs} {x0 : Int64} {x2 : Int64} {x4 : Nat} {σ : St} {σ2 : St} {r : Int64} (h1 : x4 = 46 ∨ x4 = 47)
    (hy : Er d 141 (0, ent 141 [.ref x4, .long x0], [], σ) (.inl (some (.long r)), σ2, 0))
    (k : Er (d + 1) 163 (23, [some (.long x0), none, some (.long x2), none, some (.ref x4)], [.long r], σ2) q) :
    Er (d + 1) 163 (17, [some (.long x0), none, some (.long x2), none, some (.ref x4)], [], σ) q := Er.sT (c2 := (19, [some (.long x0), none, some (.long x2), none, some (.ref x4)], [.ref x4], σ)) r163_17 rfl rfl <| Er.sT (c2 := (20, [some (.long x0), none, some (.long x2), none, some (.ref x4)], [.long x0, .ref x4], σ)) r163_19 rfl rfl <| (Er.call (vs := [.ref x4, .long x0]) (rest := []) r163_20 rfl rfl (Nat.le_of_ble_eq_true rfl) (Nat.le_of_ble_eq_true rfl) (fun _ => ⟨_, _, rfl, h1⟩) hy k)
theorem b163_23 {d : Nat} {q : Rs} {x0 : Int64} {x2 : Int64} {x4 : Nat} {s0 : Int64} {σ : St} 
    (kt : ¬ s0 = (0 : Int64) → Er (d + 1) 163 (43, [some (.long x0), none, some (.long x2), none, some (.ref x4)], [], σ) q)
    (kf : s0 = (0 : Int64) → Er (d + 1) 163 (28, [some (.long x0), none, some (.long x2), none, some (.ref x4)], [], σ) q) :
    Er (d + 1) 163 (23, [some (.long x0), none, some (.long x2), none, some (.ref x4)], [.long s0], σ) q := Er.sT (c2 := (24, [some (.long x0), none, some (.long x2), none, some (.ref x4)], [.long (0 : Int64), .long s0], σ)) r163_23 rfl rfl <| Er.sT (c2 := (25, [some (.long x0), none, some (.long x2), none, some (.ref x4)], [.int (lg_cmp s0 (0 : Int64))], σ)) r163_24 rfl rfl <| Er.sT (c2 := (brn .ne (lg_cmp s0 (0 : Int64)) (0 : Int32) 43 28, [some (.long x0), none, some (.long x2), none, some (.ref x4)], [], σ)) r163_25 rfl rfl <| (bl_ne kt kf)
theorem b163_28 {d : Nat} {q : Rs} {x0 : Int64} {x2 : Int64} {x4 : Nat} {σ : St} {σ2 : St} {r : Int64} (h1 : x4 = 46 ∨ x4 = 47)
    (hy : Er d 141 (0, ent 141 [.ref x4, .long x2], [], σ) (.inl (some (.long r)), σ2, 0))
    (k : Er (d + 1) 163 (34, [some (.long x0), none, some (.long x2), none, some (.ref x4)], [.long r], σ2) q) :
    Er (d + 1) 163 (28, [some (.long x0), none, some (.long x2), none, some (.ref x4)], [], σ) q := Er.sT (c2 := (30, [some (.long x0), none, some (.long x2), none, some (.ref x4)], [.ref x4], σ)) r163_28 rfl rfl <| Er.sT (c2 := (31, [some (.long x0), none, some (.long x2), none, some (.ref x4)], [.long x2, .ref x4], σ)) r163_30 rfl rfl <| (Er.call (vs := [.ref x4, .long x2]) (rest := []) r163_31 rfl rfl (Nat.le_of_ble_eq_true rfl) (Nat.le_of_ble_eq_true rfl) (fun _ => ⟨_, _, rfl, h1⟩) hy k)
theorem b163_34 {d : Nat} {q : Rs} {x0 : Int64} {x2 : Int64} {x4 : Nat} {s0 : Int64} {σ : St} 
    (kt : ¬ s0 = (0 : Int64) → Er (d + 1) 163 (43, [some (.long x0), none, some (.long x2), none, some (.ref x4)], [], σ) q)
    (kf : s0 = (0 : Int64) → Er (d + 1) 163 (39, [some (.long x0), none, some (.long x2), none, some (.ref x4)], [], σ) q) :
    Er (d + 1) 163 (34, [some (.long x0), none, some (.long x2), none, some (.ref x4)], [.long s0], σ) q := Er.sT (c2 := (35, [some (.long x0), none, some (.long x2), none, some (.ref x4)], [.long (0 : Int64), .long s0], σ)) r163_34 rfl rfl <| Er.sT (c2 := (36, [some (.long x0), none, some (.long x2), none, some (.ref x4)], [.int (lg_cmp s0 (0 : Int64))], σ)) r163_35 rfl rfl <| Er.sT (c2 := (brn .ne (lg_cmp s0 (0 : Int64)) (0 : Int32) 43 39, [some (.long x0), none, some (.long x2), none, some (.ref x4)], [], σ)) r163_36 rfl rfl <| (bl_ne kt kf)
theorem b163_39 {d : Nat} {x0 : Int64} {x2 : Int64} {x4 : Nat} {σ : St}  :
    Er (d + 1) 163 (39, [some (.long x0), none, some (.long x2), none, some (.ref x4)], [], σ) (.inl (some (.long (2 : Int64))), σ, 0) := Er.sT (c2 := (42, [some (.long x0), none, some (.long x2), none, some (.ref x4)], [.long (2 : Int64)], σ)) r163_39 rfl rfl <| (Er.ret r163_42 rfl ⟨_, rfl, rfl, rfl⟩)
theorem b163_43 {d : Nat} {q : Rs} {x0 : Int64} {x2 : Int64} {x4 : Nat} {σ : St} {σ2 : St} {r : Int64} 
    (hy : Er d 157 (0, ent 157 [.long x0], [], σ) (.inl (some (.long r)), σ2, 0))
    (k : Er (d + 1) 163 (50, [some (.long x0), none, some (.long x2), none, some (.ref x4)], [.long r, .long (2 : Int64)], σ2) q) :
    Er (d + 1) 163 (43, [some (.long x0), none, some (.long x2), none, some (.ref x4)], [], σ) q := Er.sT (c2 := (46, [some (.long x0), none, some (.long x2), none, some (.ref x4)], [.long (2 : Int64)], σ)) r163_43 rfl rfl <| Er.sT (c2 := (47, [some (.long x0), none, some (.long x2), none, some (.ref x4)], [.long x0, .long (2 : Int64)], σ)) r163_46 rfl rfl <| (Er.call (vs := [.long x0]) (rest := [.long (2 : Int64)]) r163_47 rfl rfl (Nat.le_of_ble_eq_true rfl) (Nat.le_of_ble_eq_true rfl) (fun h => absurd h (by decide +kernel)) hy k)
theorem b163_50 {d : Nat} {q : Rs} {x0 : Int64} {x2 : Int64} {x4 : Nat} {s0 : Int64} {s1 : Int64} {σ : St} {σ2 : St} {r : Int64} 
    (hy : Er d 157 (0, ent 157 [.long x2], [], σ) (.inl (some (.long r)), σ2, 0))
    (k : Er (d + 1) 163 (54, [some (.long x0), none, some (.long x2), none, some (.ref x4)], [.long r, .long s1, .long s0], σ2) q) :
    Er (d + 1) 163 (50, [some (.long x0), none, some (.long x2), none, some (.ref x4)], [.long s1, .long s0], σ) q := Er.sT (c2 := (51, [some (.long x0), none, some (.long x2), none, some (.ref x4)], [.long x2, .long s1, .long s0], σ)) r163_50 rfl rfl <| (Er.call (vs := [.long x2]) (rest := [.long s1, .long s0]) r163_51 rfl rfl (Nat.le_of_ble_eq_true rfl) (Nat.le_of_ble_eq_true rfl) (fun h => absurd h (by decide +kernel)) hy k)
theorem b163_54 {d : Nat} {q : Rs} {x0 : Int64} {x2 : Int64} {x4 : Nat} {s0 : Int64} {s1 : Int64} {s2 : Int64} {σ : St} {σ2 : St} {r : Int32} 
    (hy : Er d 40 (0, ent 40 [.long s1, .long s2], [], σ) (.inl (some (.int r)), σ2, 0))
    (k : Er (d + 1) 163 (57, [some (.long x0), none, some (.long x2), none, some (.ref x4)], [.int r, .long s0], σ2) q) :
    Er (d + 1) 163 (54, [some (.long x0), none, some (.long x2), none, some (.ref x4)], [.long s2, .long s1, .long s0], σ) q := (Er.call (vs := [.long s1, .long s2]) (rest := [.long s0]) r163_54 rfl rfl (Nat.le_of_ble_eq_true rfl) (Nat.le_of_ble_eq_true rfl) (fun h => absurd h (by decide +kernel)) hy k)
theorem b163_57 {d : Nat} {x0 : Int64} {x2 : Int64} {x4 : Nat} {s0 : Int64} {s1 : Int32} {σ : St}  :
    Er (d + 1) 163 (57, [some (.long x0), none, some (.long x2), none, some (.ref x4)], [.int s1, .long s0], σ) (.inl (some (.long (s0 + (s1.toInt64)))), σ, 0) := Er.sT (c2 := (58, [some (.long x0), none, some (.long x2), none, some (.ref x4)], [.long (s1.toInt64), .long s0], σ)) r163_57 rfl rfl <| Er.sT (c2 := (59, [some (.long x0), none, some (.long x2), none, some (.ref x4)], [.long (s0 + (s1.toInt64))], σ)) r163_58 rfl rfl <| (Er.ret r163_59 rfl ⟨_, rfl, rfl, rfl⟩)
/-! NumberModels$Machine.toLong(J)J -/
theorem tab_164 : tab 164 = tb164_0 := rfl
theorem ch164_0 {j : Nat} {r : Row} (h : tb164_0[j]? = some r) : rowAt 164 r.1 = some r := row_mem 164 (by decide) (by rw [tab_164]; exact List.mem_of_getElem? h)
theorem r164_0 : rowAt 164 0 = some (ra 0 3 (.getstatic 11) 46 0 789) := ch164_0 (j := 0) rfl
theorem r164_3 : rowAt 164 3 = some (ra 3 4 (.astore_n 2) 2 0 0) := ch164_0 (j := 1) rfl
theorem r164_4 : rowAt 164 4 = some (ra 4 5 (.aload_n 2) 2 0 0) := ch164_0 (j := 2) rfl
theorem r164_5 : rowAt 164 5 = some (r0 5 6 (.lload_n 0)) := ch164_0 (j := 3) rfl
theorem r164_6 : rowAt 164 6 = some (ra 6 9 (.invokevirtual 17) 147 2 793) := ch164_0 (j := 4) rfl
theorem r164_9 : rowAt 164 9 = some (ra 9 12 (.ifCond .eq 5) 14 0 0) := ch164_0 (j := 5) rfl
theorem r164_12 : rowAt 164 12 = some (r0 12 13 (.lconst 0)) := ch164_0 (j := 6) rfl
theorem r164_13 : rowAt 164 13 = some (r0 13 14 (.lreturn)) := ch164_0 (j := 7) rfl
theorem r164_14 : rowAt 164 14 = some (ra 14 15 (.aload_n 2) 2 0 0) := ch164_0 (j := 8) rfl
theorem r164_15 : rowAt 164 15 = some (r0 15 16 (.lload_n 0)) := ch164_0 (j := 9) rfl
theorem r164_16 : rowAt 164 16 = some (ra 16 19 (.invokevirtual 47) 145 2 802) := ch164_0 (j := 10) rfl
theorem r164_19 : rowAt 164 19 = some (ra 19 20 (.istore_n 3) 3 0 0) := ch164_0 (j := 11) rfl
theorem r164_20 : rowAt 164 20 = some (ra 20 21 (.aload_n 2) 2 0 0) := ch164_0 (j := 12) rfl
theorem r164_21 : rowAt 164 21 = some (r0 21 22 (.lload_n 0)) := ch164_0 (j := 13) rfl
theorem r164_22 : rowAt 164 22 = some (ra 22 25 (.invokevirtual 36) 142 2 796) := ch164_0 (j := 14) rfl
theorem r164_25 : rowAt 164 25 = some (ra 25 27 (.lstore 4) 4 0 0) := ch164_0 (j := 15) rfl
theorem r164_27 : rowAt 164 27 = some (ra 27 28 (.aload_n 2) 2 0 0) := ch164_0 (j := 16) rfl
theorem r164_28 : rowAt 164 28 = some (r0 28 29 (.lload_n 0)) := ch164_0 (j := 17) rfl
theorem r164_29 : rowAt 164 29 = some (ra 29 32 (.invokevirtual 39) 146 2 797) := ch164_0 (j := 18) rfl
theorem r164_32 : rowAt 164 32 = some (ra 32 34 (.istore 6) 6 0 0) := ch164_0 (j := 19) rfl
theorem r164_34 : rowAt 164 34 = some (ra 34 36 (.lload 4) 4 0 0) := ch164_0 (j := 20) rfl
theorem r164_36 : rowAt 164 36 = some (36, 39, .invokestatic 91, 44, 1, 855, 1, 0) := ch164_0 (j := 21) rfl
theorem r164_39 : rowAt 164 39 = some (ra 39 41 (.iload 6) 6 0 0) := ch164_0 (j := 22) rfl
theorem r164_41 : rowAt 164 41 = some (r0 41 42 (.iadd)) := ch164_0 (j := 23) rfl
theorem r164_42 : rowAt 164 42 = some (42, 44, .bipush 64, 0, 0, 0, 64, 0) := ch164_0 (j := 24) rfl
theorem r164_44 : rowAt 164 44 = some (ra 44 47 (.if_icmp .lt 17) 61 0 0) := ch164_0 (j := 25) rfl
theorem r164_47 : rowAt 164 47 = some (ra 47 48 (.iload_n 3) 3 0 0) := ch164_0 (j := 26) rfl
theorem r164_48 : rowAt 164 48 = some (ra 48 51 (.ifCond .eq 9) 57 0 0) := ch164_0 (j := 27) rfl
theorem r164_51 : rowAt 164 51 = some (51, 54, .ldc2_w 94, 0, 0, 856, 0, (-9223372036854775808)) := ch164_0 (j := 28) rfl
theorem r164_54 : rowAt 164 54 = some (ra 54 57 (.goto 6) 60 0 0) := ch164_0 (j := 29) rfl
theorem r164_57 : rowAt 164 57 = some (57, 60, .ldc2_w 96, 0, 0, 857, 0, 9223372036854775807) := ch164_0 (j := 30) rfl
theorem r164_60 : rowAt 164 60 = some (r0 60 61 (.lreturn)) := ch164_0 (j := 31) rfl
theorem r164_61 : rowAt 164 61 = some (ra 61 62 (.iload_n 3) 3 0 0) := ch164_0 (j := 32) rfl
theorem r164_62 : rowAt 164 62 = some (ra 62 64 (.lload 4) 4 0 0) := ch164_0 (j := 33) rfl
theorem r164_64 : rowAt 164 64 = some (ra 64 66 (.iload 6) 6 0 0) := ch164_0 (j := 34) rfl
theorem r164_66 : rowAt 164 66 = some (r0 66 67 (.ineg)) := ch164_0 (j := 35) rfl
theorem r164_67 : rowAt 164 67 = some (r0 67 68 (.iconst 0)) := ch164_0 (j := 36) rfl
theorem r164_68 : rowAt 164 68 = some (68, 69, .iconst 3, 0, 0, 0, 3, 0) := ch164_0 (j := 37) rfl
theorem r164_69 : rowAt 164 69 = some (ra 69 72 (.invokestatic 60) 151 5 807) := ch164_0 (j := 38) rfl
theorem r164_72 : rowAt 164 72 = some (ra 72 74 (.lstore 7) 7 0 0) := ch164_0 (j := 39) rfl
theorem r164_74 : rowAt 164 74 = some (ra 74 75 (.iload_n 3) 3 0 0) := ch164_0 (j := 40) rfl
theorem r164_75 : rowAt 164 75 = some (ra 75 78 (.ifCond .eq 9) 84 0 0) := ch164_0 (j := 41) rfl
theorem r164_78 : rowAt 164 78 = some (ra 78 80 (.lload 7) 7 0 0) := ch164_0 (j := 42) rfl
theorem r164_80 : rowAt 164 80 = some (r0 80 81 (.lneg)) := ch164_0 (j := 43) rfl
theorem r164_81 : rowAt 164 81 = some (ra 81 84 (.goto 5) 86 0 0) := ch164_0 (j := 44) rfl
theorem r164_84 : rowAt 164 84 = some (ra 84 86 (.lload 7) 7 0 0) := ch164_0 (j := 45) rfl
theorem r164_86 : rowAt 164 86 = some (r0 86 87 (.lreturn)) := ch164_0 (j := 46) rfl
theorem b164_0 {d : Nat} {q : Rs} {x0 : Int64} {σ : St} {σ2 : St} {r : Int32} (h1 : 46 = 46 ∨ 46 = 47)
    (hy : Er d 147 (0, ent 147 [.ref 46, .long x0], [], σ) (.inl (some (.int r)), σ2, 0))
    (k : Er (d + 1) 164 (9, [some (.long x0), none, some (.ref 46), none, none, none, none, none, none], [.int r], σ2) q) :
    Er (d + 1) 164 (0, [some (.long x0), none, none, none, none, none, none, none, none], [], σ) q := Er.sT (c2 := (3, [some (.long x0), none, none, none, none, none, none, none, none], [.ref 46], σ)) r164_0 rfl rfl <| Er.sT (c2 := (4, [some (.long x0), none, some (.ref 46), none, none, none, none, none, none], [], σ)) r164_3 rfl rfl <| Er.sT (c2 := (5, [some (.long x0), none, some (.ref 46), none, none, none, none, none, none], [.ref 46], σ)) r164_4 rfl rfl <| Er.sT (c2 := (6, [some (.long x0), none, some (.ref 46), none, none, none, none, none, none], [.long x0, .ref 46], σ)) r164_5 rfl rfl <| (Er.call (vs := [.ref 46, .long x0]) (rest := []) r164_6 rfl rfl (Nat.le_of_ble_eq_true rfl) (Nat.le_of_ble_eq_true rfl) (fun _ => ⟨_, _, rfl, h1⟩) hy k)
theorem b164_9 {d : Nat} {q : Rs} {x0 : Int64} {x2 : Nat} {s0 : Int32} {σ : St} 
    (kt : s0 = (0 : Int32) → Er (d + 1) 164 (14, [some (.long x0), none, some (.ref x2), none, none, none, none, none, none], [], σ) q)
    (kf : ¬ s0 = (0 : Int32) → Er (d + 1) 164 (12, [some (.long x0), none, some (.ref x2), none, none, none, none, none, none], [], σ) q) :
    Er (d + 1) 164 (9, [some (.long x0), none, some (.ref x2), none, none, none, none, none, none], [.int s0], σ) q := Er.sT (c2 := (brn .eq s0 (0 : Int32) 14 12, [some (.long x0), none, some (.ref x2), none, none, none, none, none, none], [], σ)) r164_9 rfl rfl <| (br_eq kt kf)
theorem b164_12 {d : Nat} {x0 : Int64} {x2 : Nat} {σ : St}  :
    Er (d + 1) 164 (12, [some (.long x0), none, some (.ref x2), none, none, none, none, none, none], [], σ) (.inl (some (.long (0 : Int64))), σ, 0) := Er.sT (c2 := (13, [some (.long x0), none, some (.ref x2), none, none, none, none, none, none], [.long (0 : Int64)], σ)) r164_12 rfl rfl <| (Er.ret r164_13 rfl ⟨_, rfl, rfl, rfl⟩)
theorem b164_14 {d : Nat} {q : Rs} {x0 : Int64} {x2 : Nat} {σ : St} {σ2 : St} {r : Int32} (h1 : x2 = 46 ∨ x2 = 47)
    (hy : Er d 145 (0, ent 145 [.ref x2, .long x0], [], σ) (.inl (some (.int r)), σ2, 0))
    (k : Er (d + 1) 164 (19, [some (.long x0), none, some (.ref x2), none, none, none, none, none, none], [.int r], σ2) q) :
    Er (d + 1) 164 (14, [some (.long x0), none, some (.ref x2), none, none, none, none, none, none], [], σ) q := Er.sT (c2 := (15, [some (.long x0), none, some (.ref x2), none, none, none, none, none, none], [.ref x2], σ)) r164_14 rfl rfl <| Er.sT (c2 := (16, [some (.long x0), none, some (.ref x2), none, none, none, none, none, none], [.long x0, .ref x2], σ)) r164_15 rfl rfl <| (Er.call (vs := [.ref x2, .long x0]) (rest := []) r164_16 rfl rfl (Nat.le_of_ble_eq_true rfl) (Nat.le_of_ble_eq_true rfl) (fun _ => ⟨_, _, rfl, h1⟩) hy k)
theorem b164_19 {d : Nat} {q : Rs} {x0 : Int64} {x2 : Nat} {s0 : Int32} {σ : St} {σ2 : St} {r : Int64} (h1 : x2 = 46 ∨ x2 = 47)
    (hy : Er d 142 (0, ent 142 [.ref x2, .long x0], [], σ) (.inl (some (.long r)), σ2, 0))
    (k : Er (d + 1) 164 (25, [some (.long x0), none, some (.ref x2), some (.int s0), none, none, none, none, none], [.long r], σ2) q) :
    Er (d + 1) 164 (19, [some (.long x0), none, some (.ref x2), none, none, none, none, none, none], [.int s0], σ) q := Er.sT (c2 := (20, [some (.long x0), none, some (.ref x2), some (.int s0), none, none, none, none, none], [], σ)) r164_19 rfl rfl <| Er.sT (c2 := (21, [some (.long x0), none, some (.ref x2), some (.int s0), none, none, none, none, none], [.ref x2], σ)) r164_20 rfl rfl <| Er.sT (c2 := (22, [some (.long x0), none, some (.ref x2), some (.int s0), none, none, none, none, none], [.long x0, .ref x2], σ)) r164_21 rfl rfl <| (Er.call (vs := [.ref x2, .long x0]) (rest := []) r164_22 rfl rfl (Nat.le_of_ble_eq_true rfl) (Nat.le_of_ble_eq_true rfl) (fun _ => ⟨_, _, rfl, h1⟩) hy k)
theorem b164_25 {d : Nat} {q : Rs} {x0 : Int64} {x2 : Nat} {x3 : Int32} {s0 : Int64} {σ : St} {σ2 : St} {r : Int32} (h1 : x2 = 46 ∨ x2 = 47)
    (hy : Er d 146 (0, ent 146 [.ref x2, .long x0], [], σ) (.inl (some (.int r)), σ2, 0))
    (k : Er (d + 1) 164 (32, [some (.long x0), none, some (.ref x2), some (.int x3), some (.long s0), none, none, none, none], [.int r], σ2) q) :
    Er (d + 1) 164 (25, [some (.long x0), none, some (.ref x2), some (.int x3), none, none, none, none, none], [.long s0], σ) q := Er.sT (c2 := (27, [some (.long x0), none, some (.ref x2), some (.int x3), some (.long s0), none, none, none, none], [], σ)) r164_25 rfl rfl <| Er.sT (c2 := (28, [some (.long x0), none, some (.ref x2), some (.int x3), some (.long s0), none, none, none, none], [.ref x2], σ)) r164_27 rfl rfl <| Er.sT (c2 := (29, [some (.long x0), none, some (.ref x2), some (.int x3), some (.long s0), none, none, none, none], [.long x0, .ref x2], σ)) r164_28 rfl rfl <| (Er.call (vs := [.ref x2, .long x0]) (rest := []) r164_29 rfl rfl (Nat.le_of_ble_eq_true rfl) (Nat.le_of_ble_eq_true rfl) (fun _ => ⟨_, _, rfl, h1⟩) hy k)
theorem b164_32 {d : Nat} {q : Rs} {x0 : Int64} {x2 : Nat} {x3 : Int32} {x4 : Int64} {s0 : Int32} {σ : St} {σ2 : St} {r : Int32} 
    (hy : Er d 44 (0, ent 44 [.long x4], [], σ) (.inl (some (.int r)), σ2, 0))
    (k : Er (d + 1) 164 (39, [some (.long x0), none, some (.ref x2), some (.int x3), some (.long x4), none, some (.int s0), none, none], [.int r], σ2) q) :
    Er (d + 1) 164 (32, [some (.long x0), none, some (.ref x2), some (.int x3), some (.long x4), none, none, none, none], [.int s0], σ) q := Er.sT (c2 := (34, [some (.long x0), none, some (.ref x2), some (.int x3), some (.long x4), none, some (.int s0), none, none], [], σ)) r164_32 rfl rfl <| Er.sT (c2 := (36, [some (.long x0), none, some (.ref x2), some (.int x3), some (.long x4), none, some (.int s0), none, none], [.long x4], σ)) r164_34 rfl rfl <| (Er.call (vs := [.long x4]) (rest := []) r164_36 rfl rfl (Nat.le_of_ble_eq_true rfl) (Nat.le_of_ble_eq_true rfl) (fun h => absurd h (by decide +kernel)) hy k)
theorem b164_39 {d : Nat} {q : Rs} {x0 : Int64} {x2 : Nat} {x3 : Int32} {x4 : Int64} {x6 : Int32} {s0 : Int32} {σ : St} 
    (kt : (s0 + x6) < (64 : Int32) → Er (d + 1) 164 (61, [some (.long x0), none, some (.ref x2), some (.int x3), some (.long x4), none, some (.int x6), none, none], [], σ) q)
    (kf : ¬ (s0 + x6) < (64 : Int32) → Er (d + 1) 164 (47, [some (.long x0), none, some (.ref x2), some (.int x3), some (.long x4), none, some (.int x6), none, none], [], σ) q) :
    Er (d + 1) 164 (39, [some (.long x0), none, some (.ref x2), some (.int x3), some (.long x4), none, some (.int x6), none, none], [.int s0], σ) q := Er.sT (c2 := (41, [some (.long x0), none, some (.ref x2), some (.int x3), some (.long x4), none, some (.int x6), none, none], [.int x6, .int s0], σ)) r164_39 rfl rfl <| Er.sT (c2 := (42, [some (.long x0), none, some (.ref x2), some (.int x3), some (.long x4), none, some (.int x6), none, none], [.int (s0 + x6)], σ)) r164_41 rfl rfl <| Er.sT (c2 := (44, [some (.long x0), none, some (.ref x2), some (.int x3), some (.long x4), none, some (.int x6), none, none], [.int (64 : Int32), .int (s0 + x6)], σ)) r164_42 rfl rfl <| Er.sT (c2 := (brn .lt (s0 + x6) (64 : Int32) 61 47, [some (.long x0), none, some (.ref x2), some (.int x3), some (.long x4), none, some (.int x6), none, none], [], σ)) r164_44 rfl rfl <| (br_lt kt kf)
theorem b164_47 {d : Nat} {q : Rs} {x0 : Int64} {x2 : Nat} {x3 : Int32} {x4 : Int64} {x6 : Int32} {σ : St} 
    (kt : x3 = (0 : Int32) → Er (d + 1) 164 (57, [some (.long x0), none, some (.ref x2), some (.int x3), some (.long x4), none, some (.int x6), none, none], [], σ) q)
    (kf : ¬ x3 = (0 : Int32) → Er (d + 1) 164 (51, [some (.long x0), none, some (.ref x2), some (.int x3), some (.long x4), none, some (.int x6), none, none], [], σ) q) :
    Er (d + 1) 164 (47, [some (.long x0), none, some (.ref x2), some (.int x3), some (.long x4), none, some (.int x6), none, none], [], σ) q := Er.sT (c2 := (48, [some (.long x0), none, some (.ref x2), some (.int x3), some (.long x4), none, some (.int x6), none, none], [.int x3], σ)) r164_47 rfl rfl <| Er.sT (c2 := (brn .eq x3 (0 : Int32) 57 51, [some (.long x0), none, some (.ref x2), some (.int x3), some (.long x4), none, some (.int x6), none, none], [], σ)) r164_48 rfl rfl <| (br_eq kt kf)
theorem b164_51 {d : Nat} {q : Rs} {x0 : Int64} {x2 : Nat} {x3 : Int32} {x4 : Int64} {x6 : Int32} {σ : St} 
    (k : Er (d + 1) 164 (60, [some (.long x0), none, some (.ref x2), some (.int x3), some (.long x4), none, some (.int x6), none, none], [.long (-9223372036854775808 : Int64)], σ) q) :
    Er (d + 1) 164 (51, [some (.long x0), none, some (.ref x2), some (.int x3), some (.long x4), none, some (.int x6), none, none], [], σ) q := Er.sT (c2 := (54, [some (.long x0), none, some (.ref x2), some (.int x3), some (.long x4), none, some (.int x6), none, none], [.long (-9223372036854775808 : Int64)], σ)) r164_51 rfl rfl <| Er.sT (c2 := (60, [some (.long x0), none, some (.ref x2), some (.int x3), some (.long x4), none, some (.int x6), none, none], [.long (-9223372036854775808 : Int64)], σ)) r164_54 rfl rfl <| k
theorem b164_57 {d : Nat} {q : Rs} {x0 : Int64} {x2 : Nat} {x3 : Int32} {x4 : Int64} {x6 : Int32} {σ : St} 
    (k : Er (d + 1) 164 (60, [some (.long x0), none, some (.ref x2), some (.int x3), some (.long x4), none, some (.int x6), none, none], [.long (9223372036854775807 : Int64)], σ) q) :
    Er (d + 1) 164 (57, [some (.long x0), none, some (.ref x2), some (.int x3), some (.long x4), none, some (.int x6), none, none], [], σ) q := Er.sT (c2 := (60, [some (.long x0), none, some (.ref x2), some (.int x3), some (.long x4), none, some (.int x6), none, none], [.long (9223372036854775807 : Int64)], σ)) r164_57 rfl rfl <| k
theorem b164_60 {d : Nat} {x0 : Int64} {x2 : Nat} {x3 : Int32} {x4 : Int64} {x6 : Int32} {s0 : Int64} {σ : St}  :
    Er (d + 1) 164 (60, [some (.long x0), none, some (.ref x2), some (.int x3), some (.long x4), none, some (.int x6), none, none], [.long s0], σ) (.inl (some (.long s0)), σ, 0) := (Er.ret r164_60 rfl ⟨_, rfl, rfl, rfl⟩)
theorem b164_61 {d : Nat} {q : Rs} {x0 : Int64} {x2 : Nat} {x3 : Int32} {x4 : Int64} {x6 : Int32} {σ : St} {σ2 : St} {r : Int64} 
    (hy : Er d 151 (0, ent 151 [.int x3, .long x4, .int (-x6), .int (0 : Int32), .int (3 : Int32)], [], σ) (.inl (some (.long r)), σ2, 0))
    (k : Er (d + 1) 164 (72, [some (.long x0), none, some (.ref x2), some (.int x3), some (.long x4), none, some (.int x6), none, none], [.long r], σ2) q) :
    Er (d + 1) 164 (61, [some (.long x0), none, some (.ref x2), some (.int x3), some (.long x4), none, some (.int x6), none, none], [], σ) q := Er.sT (c2 := (62, [some (.long x0), none, some (.ref x2), some (.int x3), some (.long x4), none, some (.int x6), none, none], [.int x3], σ)) r164_61 rfl rfl <| Er.sT (c2 := (64, [some (.long x0), none, some (.ref x2), some (.int x3), some (.long x4), none, some (.int x6), none, none], [.long x4, .int x3], σ)) r164_62 rfl rfl <| Er.sT (c2 := (66, [some (.long x0), none, some (.ref x2), some (.int x3), some (.long x4), none, some (.int x6), none, none], [.int x6, .long x4, .int x3], σ)) r164_64 rfl rfl <| Er.sT (c2 := (67, [some (.long x0), none, some (.ref x2), some (.int x3), some (.long x4), none, some (.int x6), none, none], [.int (-x6), .long x4, .int x3], σ)) r164_66 rfl rfl <| Er.sT (c2 := (68, [some (.long x0), none, some (.ref x2), some (.int x3), some (.long x4), none, some (.int x6), none, none], [.int (0 : Int32), .int (-x6), .long x4, .int x3], σ)) r164_67 rfl rfl <| Er.sT (c2 := (69, [some (.long x0), none, some (.ref x2), some (.int x3), some (.long x4), none, some (.int x6), none, none], [.int (3 : Int32), .int (0 : Int32), .int (-x6), .long x4, .int x3], σ)) r164_68 rfl rfl <| (Er.call (vs := [.int x3, .long x4, .int (-x6), .int (0 : Int32), .int (3 : Int32)]) (rest := []) r164_69 rfl rfl (Nat.le_of_ble_eq_true rfl) (Nat.le_of_ble_eq_true rfl) (fun h => absurd h (by decide +kernel)) hy k)
theorem b164_72 {d : Nat} {q : Rs} {x0 : Int64} {x2 : Nat} {x3 : Int32} {x4 : Int64} {x6 : Int32} {s0 : Int64} {σ : St} 
    (kt : x3 = (0 : Int32) → Er (d + 1) 164 (84, [some (.long x0), none, some (.ref x2), some (.int x3), some (.long x4), none, some (.int x6), some (.long s0), none], [], σ) q)
    (kf : ¬ x3 = (0 : Int32) → Er (d + 1) 164 (78, [some (.long x0), none, some (.ref x2), some (.int x3), some (.long x4), none, some (.int x6), some (.long s0), none], [], σ) q) :
    Er (d + 1) 164 (72, [some (.long x0), none, some (.ref x2), some (.int x3), some (.long x4), none, some (.int x6), none, none], [.long s0], σ) q := Er.sT (c2 := (74, [some (.long x0), none, some (.ref x2), some (.int x3), some (.long x4), none, some (.int x6), some (.long s0), none], [], σ)) r164_72 rfl rfl <| Er.sT (c2 := (75, [some (.long x0), none, some (.ref x2), some (.int x3), some (.long x4), none, some (.int x6), some (.long s0), none], [.int x3], σ)) r164_74 rfl rfl <| Er.sT (c2 := (brn .eq x3 (0 : Int32) 84 78, [some (.long x0), none, some (.ref x2), some (.int x3), some (.long x4), none, some (.int x6), some (.long s0), none], [], σ)) r164_75 rfl rfl <| (br_eq kt kf)
theorem b164_78 {d : Nat} {q : Rs} {x0 : Int64} {x2 : Nat} {x3 : Int32} {x4 : Int64} {x6 : Int32} {x7 : Int64} {σ : St} 
    (k : Er (d + 1) 164 (86, [some (.long x0), none, some (.ref x2), some (.int x3), some (.long x4), none, some (.int x6), some (.long x7), none], [.long (-x7)], σ) q) :
    Er (d + 1) 164 (78, [some (.long x0), none, some (.ref x2), some (.int x3), some (.long x4), none, some (.int x6), some (.long x7), none], [], σ) q := Er.sT (c2 := (80, [some (.long x0), none, some (.ref x2), some (.int x3), some (.long x4), none, some (.int x6), some (.long x7), none], [.long x7], σ)) r164_78 rfl rfl <| Er.sT (c2 := (81, [some (.long x0), none, some (.ref x2), some (.int x3), some (.long x4), none, some (.int x6), some (.long x7), none], [.long (-x7)], σ)) r164_80 rfl rfl <| Er.sT (c2 := (86, [some (.long x0), none, some (.ref x2), some (.int x3), some (.long x4), none, some (.int x6), some (.long x7), none], [.long (-x7)], σ)) r164_81 rfl rfl <| k
theorem b164_84 {d : Nat} {q : Rs} {x0 : Int64} {x2 : Nat} {x3 : Int32} {x4 : Int64} {x6 : Int32} {x7 : Int64} {σ : St} 
    (k : Er (d + 1) 164 (86, [some (.long x0), none, some (.ref x2), some (.int x3), some (.long x4), none, some (.int x6), some (.long x7), none], [.long x7], σ) q) :
    Er (d + 1) 164 (84, [some (.long x0), none, some (.ref x2), some (.int x3), some (.long x4), none, some (.int x6), some (.long x7), none], [], σ) q := Er.sT (c2 := (86, [some (.long x0), none, some (.ref x2), some (.int x3), some (.long x4), none, some (.int x6), some (.long x7), none], [.long x7], σ)) r164_84 rfl rfl <| k
theorem b164_86 {d : Nat} {x0 : Int64} {x2 : Nat} {x3 : Int32} {x4 : Int64} {x6 : Int32} {x7 : Int64} {s0 : Int64} {σ : St}  :
    Er (d + 1) 164 (86, [some (.long x0), none, some (.ref x2), some (.int x3), some (.long x4), none, some (.int x6), some (.long x7), none], [.long s0], σ) (.inl (some (.long s0)), σ, 0) := (Er.ret r164_86 rfl ⟨_, rfl, rfl, rfl⟩)
/-! NumberModels$Machine.toInt(J)I -/
theorem tab_165 : tab 165 = tb165_0 := rfl
theorem ch165_0 {j : Nat} {r : Row} (h : tb165_0[j]? = some r) : rowAt 165 r.1 = some r := row_mem 165 (by decide) (by rw [tab_165]; exact List.mem_of_getElem? h)
theorem r165_0 : rowAt 165 0 = some (0, 3, .ldc2_w 98, 0, 0, 861, 0, (-2147483648)) := ch165_0 (j := 0) rfl
theorem r165_3 : rowAt 165 3 = some (r0 3 4 (.lload_n 0)) := ch165_0 (j := 1) rfl
theorem r165_4 : rowAt 165 4 = some (ra 4 7 (.invokestatic 100) 164 1 862) := ch165_0 (j := 2) rfl
theorem r165_7 : rowAt 165 7 = some (7, 10, .ldc2_w 103, 0, 0, 863, 0, 2147483647) := ch165_0 (j := 3) rfl
theorem r165_10 : rowAt 165 10 = some (ra 10 13 (.invokestatic 77) 993 2 832) := ch165_0 (j := 4) rfl
theorem r165_13 : rowAt 165 13 = some (ra 13 16 (.invokestatic 80) 994 2 835) := ch165_0 (j := 5) rfl
theorem r165_16 : rowAt 165 16 = some (r0 16 17 (.l2i)) := ch165_0 (j := 6) rfl
theorem r165_17 : rowAt 165 17 = some (r0 17 18 (.ireturn)) := ch165_0 (j := 7) rfl
theorem b165_0 {d : Nat} {q : Rs} {x0 : Int64} {σ : St} {σ2 : St} {r : Int64} 
    (hy : Er d 164 (0, ent 164 [.long x0], [], σ) (.inl (some (.long r)), σ2, 0))
    (k : Er (d + 1) 165 (7, [some (.long x0), none], [.long r, .long (-2147483648 : Int64)], σ2) q) :
    Er (d + 1) 165 (0, [some (.long x0), none], [], σ) q := Er.sT (c2 := (3, [some (.long x0), none], [.long (-2147483648 : Int64)], σ)) r165_0 rfl rfl <| Er.sT (c2 := (4, [some (.long x0), none], [.long x0, .long (-2147483648 : Int64)], σ)) r165_3 rfl rfl <| (Er.call (vs := [.long x0]) (rest := [.long (-2147483648 : Int64)]) r165_4 rfl rfl (Nat.le_of_ble_eq_true rfl) (Nat.le_of_ble_eq_true rfl) (fun h => absurd h (by decide +kernel)) hy k)
theorem b165_7 {d : Nat} {x0 : Int64} {s0 : Int64} {s1 : Int64} {σ : St}  :
    Er (d + 1) 165 (7, [some (.long x0), none], [.long s1, .long s0], σ) (.inl (some (.int ((if (if (2147483647 : Int64) < s1 then (2147483647 : Int64) else s1) < s0 then s0 else (if (2147483647 : Int64) < s1 then (2147483647 : Int64) else s1)).toInt32))), σ, 0) := Er.sT (c2 := (10, [some (.long x0), none], [.long (2147483647 : Int64), .long s1, .long s0], σ)) r165_7 rfl rfl <| Er.st (P := ((([.long s0] : List Value).map fun v => v.category).sum ≤ 8)) (c2 := (13, [some (.long x0), none], [.long (if (2147483647 : Int64) < s1 then (2147483647 : Int64) else s1), .long s0], σ)) r165_10 rfl rfl (Nat.le_of_ble_eq_true rfl) <| Er.st (P := ((([] : List Value).map fun v => v.category).sum ≤ 8)) (c2 := (16, [some (.long x0), none], [.long (if (if (2147483647 : Int64) < s1 then (2147483647 : Int64) else s1) < s0 then s0 else (if (2147483647 : Int64) < s1 then (2147483647 : Int64) else s1))], σ)) r165_13 rfl rfl (Nat.le_of_ble_eq_true rfl) <| Er.sT (c2 := (17, [some (.long x0), none], [.int ((if (if (2147483647 : Int64) < s1 then (2147483647 : Int64) else s1) < s0 then s0 else (if (2147483647 : Int64) < s1 then (2147483647 : Int64) else s1)).toInt32)], σ)) r165_16 rfl rfl <| (Er.ret r165_17 rfl ⟨_, _, rfl, rfl, rfl, rfl⟩)
/-! NumberModels$Machine.changeFormat(LNumberModels$Format;LNumberModels$Format;J)J -/
theorem tab_166 : tab 166 = tb166_0 := rfl
theorem ch166_0 {j : Nat} {r : Row} (h : tb166_0[j]? = some r) : rowAt 166 r.1 = some r := row_mem 166 (by decide) (by rw [tab_166]; exact List.mem_of_getElem? h)
theorem r166_0 : rowAt 166 0 = some (r0 0 1 (.aload_n 0)) := ch166_0 (j := 0) rfl
theorem r166_1 : rowAt 166 1 = some (ra 1 2 (.lload_n 2) 2 0 0) := ch166_0 (j := 1) rfl
theorem r166_2 : rowAt 166 2 = some (ra 2 5 (.invokevirtual 17) 147 2 793) := ch166_0 (j := 2) rfl
theorem r166_5 : rowAt 166 5 = some (ra 5 8 (.ifCond .eq 8) 13 0 0) := ch166_0 (j := 3) rfl
theorem r166_8 : rowAt 166 8 = some (ra 8 9 (.aload_n 1) 1 0 0) := ch166_0 (j := 4) rfl
theorem r166_9 : rowAt 166 9 = some (ra 9 12 (.getfield 32) 3 7 1183) := ch166_0 (j := 5) rfl
theorem r166_12 : rowAt 166 12 = some (r0 12 13 (.lreturn)) := ch166_0 (j := 6) rfl
theorem r166_13 : rowAt 166 13 = some (r0 13 14 (.aload_n 0)) := ch166_0 (j := 7) rfl
theorem r166_14 : rowAt 166 14 = some (ra 14 15 (.lload_n 2) 2 0 0) := ch166_0 (j := 8) rfl
theorem r166_15 : rowAt 166 15 = some (ra 15 18 (.invokevirtual 47) 145 2 802) := ch166_0 (j := 9) rfl
theorem r166_18 : rowAt 166 18 = some (ra 18 20 (.istore 4) 4 0 0) := ch166_0 (j := 10) rfl
theorem r166_20 : rowAt 166 20 = some (r0 20 21 (.aload_n 0)) := ch166_0 (j := 11) rfl
theorem r166_21 : rowAt 166 21 = some (ra 21 22 (.lload_n 2) 2 0 0) := ch166_0 (j := 12) rfl
theorem r166_22 : rowAt 166 22 = some (ra 22 25 (.invokevirtual 25) 140 2 794) := ch166_0 (j := 13) rfl
theorem r166_25 : rowAt 166 25 = some (ra 25 28 (.ifCond .ne 14) 39 0 0) := ch166_0 (j := 14) rfl
theorem r166_28 : rowAt 166 28 = some (ra 28 29 (.aload_n 1) 1 0 0) := ch166_0 (j := 15) rfl
theorem r166_29 : rowAt 166 29 = some (ra 29 31 (.iload 4) 4 0 0) := ch166_0 (j := 16) rfl
theorem r166_31 : rowAt 166 31 = some (ra 31 32 (.aload_n 1) 1 0 0) := ch166_0 (j := 17) rfl
theorem r166_32 : rowAt 166 32 = some (ra 32 35 (.getfield 70) 4 7 1184) := ch166_0 (j := 18) rfl
theorem r166_35 : rowAt 166 35 = some (ra 35 38 (.invokevirtual 66) 149 3 820) := ch166_0 (j := 19) rfl
theorem r166_38 : rowAt 166 38 = some (r0 38 39 (.lreturn)) := ch166_0 (j := 20) rfl
theorem r166_39 : rowAt 166 39 = some (ra 39 40 (.aload_n 1) 1 0 0) := ch166_0 (j := 21) rfl
theorem r166_40 : rowAt 166 40 = some (ra 40 42 (.iload 4) 4 0 0) := ch166_0 (j := 22) rfl
theorem r166_42 : rowAt 166 42 = some (r0 42 43 (.aload_n 0)) := ch166_0 (j := 23) rfl
theorem r166_43 : rowAt 166 43 = some (ra 43 44 (.lload_n 2) 2 0 0) := ch166_0 (j := 24) rfl
theorem r166_44 : rowAt 166 44 = some (ra 44 47 (.invokevirtual 36) 142 2 796) := ch166_0 (j := 25) rfl
theorem r166_47 : rowAt 166 47 = some (r0 47 48 (.aload_n 0)) := ch166_0 (j := 26) rfl
theorem r166_48 : rowAt 166 48 = some (ra 48 49 (.lload_n 2) 2 0 0) := ch166_0 (j := 27) rfl
theorem r166_49 : rowAt 166 49 = some (ra 49 52 (.invokevirtual 39) 146 2 797) := ch166_0 (j := 28) rfl
theorem r166_52 : rowAt 166 52 = some (r0 52 53 (.iconst 0)) := ch166_0 (j := 29) rfl
theorem r166_53 : rowAt 166 53 = some (r0 53 54 (.iconst 0)) := ch166_0 (j := 30) rfl
theorem r166_54 : rowAt 166 54 = some (ra 54 57 (.invokevirtual 50) 148 6 803) := ch166_0 (j := 31) rfl
theorem r166_57 : rowAt 166 57 = some (r0 57 58 (.lreturn)) := ch166_0 (j := 32) rfl
theorem b166_0 {d : Nat} {q : Rs} {x0 : Nat} {x1 : Nat} {x2 : Int64} {σ : St} {σ2 : St} {r : Int32} (h1 : x0 = 46 ∨ x0 = 47)
    (hy : Er d 147 (0, ent 147 [.ref x0, .long x2], [], σ) (.inl (some (.int r)), σ2, 0))
    (k : Er (d + 1) 166 (5, [some (.ref x0), some (.ref x1), some (.long x2), none, none], [.int r], σ2) q) :
    Er (d + 1) 166 (0, [some (.ref x0), some (.ref x1), some (.long x2), none, none], [], σ) q := Er.sT (c2 := (1, [some (.ref x0), some (.ref x1), some (.long x2), none, none], [.ref x0], σ)) r166_0 rfl rfl <| Er.sT (c2 := (2, [some (.ref x0), some (.ref x1), some (.long x2), none, none], [.long x2, .ref x0], σ)) r166_1 rfl rfl <| (Er.call (vs := [.ref x0, .long x2]) (rest := []) r166_2 rfl rfl (Nat.le_of_ble_eq_true rfl) (Nat.le_of_ble_eq_true rfl) (fun _ => ⟨_, _, rfl, h1⟩) hy k)
theorem b166_5 {d : Nat} {q : Rs} {x0 : Nat} {x1 : Nat} {x2 : Int64} {s0 : Int32} {σ : St} 
    (kt : s0 = (0 : Int32) → Er (d + 1) 166 (13, [some (.ref x0), some (.ref x1), some (.long x2), none, none], [], σ) q)
    (kf : ¬ s0 = (0 : Int32) → Er (d + 1) 166 (8, [some (.ref x0), some (.ref x1), some (.long x2), none, none], [], σ) q) :
    Er (d + 1) 166 (5, [some (.ref x0), some (.ref x1), some (.long x2), none, none], [.int s0], σ) q := Er.sT (c2 := (brn .eq s0 (0 : Int32) 13 8, [some (.ref x0), some (.ref x1), some (.long x2), none, none], [], σ)) r166_5 rfl rfl <| (br_eq kt kf)
theorem b166_8 {d : Nat} {x0 : Nat} {x1 : Nat} {x2 : Int64} {σ : St} (h1 : x1 = 46 ∨ x1 = 47) :
    Er (d + 1) 166 (8, [some (.ref x0), some (.ref x1), some (.long x2), none, none], [], σ) (.inl (some (.long (efl x1 3))), σ, 0) := Er.sT (c2 := (9, [some (.ref x0), some (.ref x1), some (.long x2), none, none], [.ref x1], σ)) r166_8 rfl rfl <| Er.st (P := (x1 = 46 ∨ x1 = 47)) (c2 := (12, [some (.ref x0), some (.ref x1), some (.long x2), none, none], [.long (efl x1 3)], σ)) r166_9 rfl rfl h1 <| (Er.ret r166_12 rfl ⟨_, rfl, rfl, rfl⟩)
theorem b166_13 {d : Nat} {q : Rs} {x0 : Nat} {x1 : Nat} {x2 : Int64} {σ : St} {σ2 : St} {r : Int32} (h1 : x0 = 46 ∨ x0 = 47)
    (hy : Er d 145 (0, ent 145 [.ref x0, .long x2], [], σ) (.inl (some (.int r)), σ2, 0))
    (k : Er (d + 1) 166 (18, [some (.ref x0), some (.ref x1), some (.long x2), none, none], [.int r], σ2) q) :
    Er (d + 1) 166 (13, [some (.ref x0), some (.ref x1), some (.long x2), none, none], [], σ) q := Er.sT (c2 := (14, [some (.ref x0), some (.ref x1), some (.long x2), none, none], [.ref x0], σ)) r166_13 rfl rfl <| Er.sT (c2 := (15, [some (.ref x0), some (.ref x1), some (.long x2), none, none], [.long x2, .ref x0], σ)) r166_14 rfl rfl <| (Er.call (vs := [.ref x0, .long x2]) (rest := []) r166_15 rfl rfl (Nat.le_of_ble_eq_true rfl) (Nat.le_of_ble_eq_true rfl) (fun _ => ⟨_, _, rfl, h1⟩) hy k)
theorem b166_18 {d : Nat} {q : Rs} {x0 : Nat} {x1 : Nat} {x2 : Int64} {s0 : Int32} {σ : St} {σ2 : St} {r : Int32} (h1 : x0 = 46 ∨ x0 = 47)
    (hy : Er d 140 (0, ent 140 [.ref x0, .long x2], [], σ) (.inl (some (.int r)), σ2, 0))
    (k : Er (d + 1) 166 (25, [some (.ref x0), some (.ref x1), some (.long x2), none, some (.int s0)], [.int r], σ2) q) :
    Er (d + 1) 166 (18, [some (.ref x0), some (.ref x1), some (.long x2), none, none], [.int s0], σ) q := Er.sT (c2 := (20, [some (.ref x0), some (.ref x1), some (.long x2), none, some (.int s0)], [], σ)) r166_18 rfl rfl <| Er.sT (c2 := (21, [some (.ref x0), some (.ref x1), some (.long x2), none, some (.int s0)], [.ref x0], σ)) r166_20 rfl rfl <| Er.sT (c2 := (22, [some (.ref x0), some (.ref x1), some (.long x2), none, some (.int s0)], [.long x2, .ref x0], σ)) r166_21 rfl rfl <| (Er.call (vs := [.ref x0, .long x2]) (rest := []) r166_22 rfl rfl (Nat.le_of_ble_eq_true rfl) (Nat.le_of_ble_eq_true rfl) (fun _ => ⟨_, _, rfl, h1⟩) hy k)
theorem b166_25 {d : Nat} {q : Rs} {x0 : Nat} {x1 : Nat} {x2 : Int64} {x4 : Int32} {s0 : Int32} {σ : St} 
    (kt : ¬ s0 = (0 : Int32) → Er (d + 1) 166 (39, [some (.ref x0), some (.ref x1), some (.long x2), none, some (.int x4)], [], σ) q)
    (kf : s0 = (0 : Int32) → Er (d + 1) 166 (28, [some (.ref x0), some (.ref x1), some (.long x2), none, some (.int x4)], [], σ) q) :
    Er (d + 1) 166 (25, [some (.ref x0), some (.ref x1), some (.long x2), none, some (.int x4)], [.int s0], σ) q := Er.sT (c2 := (brn .ne s0 (0 : Int32) 39 28, [some (.ref x0), some (.ref x1), some (.long x2), none, some (.int x4)], [], σ)) r166_25 rfl rfl <| (br_ne kt kf)
theorem b166_28 {d : Nat} {q : Rs} {x0 : Nat} {x1 : Nat} {x2 : Int64} {x4 : Int32} {σ : St} {σ2 : St} {r : Int64} (h1 : x1 = 46 ∨ x1 = 47)
    (hy : Er d 149 (0, ent 149 [.ref x1, .int x4, .long (efl x1 4)], [], σ) (.inl (some (.long r)), σ2, 0))
    (k : Er (d + 1) 166 (38, [some (.ref x0), some (.ref x1), some (.long x2), none, some (.int x4)], [.long r], σ2) q) :
    Er (d + 1) 166 (28, [some (.ref x0), some (.ref x1), some (.long x2), none, some (.int x4)], [], σ) q := Er.sT (c2 := (29, [some (.ref x0), some (.ref x1), some (.long x2), none, some (.int x4)], [.ref x1], σ)) r166_28 rfl rfl <| Er.sT (c2 := (31, [some (.ref x0), some (.ref x1), some (.long x2), none, some (.int x4)], [.int x4, .ref x1], σ)) r166_29 rfl rfl <| Er.sT (c2 := (32, [some (.ref x0), some (.ref x1), some (.long x2), none, some (.int x4)], [.ref x1, .int x4, .ref x1], σ)) r166_31 rfl rfl <| Er.st (P := (x1 = 46 ∨ x1 = 47)) (c2 := (35, [some (.ref x0), some (.ref x1), some (.long x2), none, some (.int x4)], [.long (efl x1 4), .int x4, .ref x1], σ)) r166_32 rfl rfl h1 <| (Er.call (vs := [.ref x1, .int x4, .long (efl x1 4)]) (rest := []) r166_35 rfl rfl (Nat.le_of_ble_eq_true rfl) (Nat.le_of_ble_eq_true rfl) (fun _ => ⟨_, _, rfl, h1⟩) hy k)
theorem b166_38 {d : Nat} {x0 : Nat} {x1 : Nat} {x2 : Int64} {x4 : Int32} {s0 : Int64} {σ : St}  :
    Er (d + 1) 166 (38, [some (.ref x0), some (.ref x1), some (.long x2), none, some (.int x4)], [.long s0], σ) (.inl (some (.long s0)), σ, 0) := (Er.ret r166_38 rfl ⟨_, rfl, rfl, rfl⟩)
theorem b166_39 {d : Nat} {q : Rs} {x0 : Nat} {x1 : Nat} {x2 : Int64} {x4 : Int32} {σ : St} {σ2 : St} {r : Int64} (h1 : x0 = 46 ∨ x0 = 47)
    (hy : Er d 142 (0, ent 142 [.ref x0, .long x2], [], σ) (.inl (some (.long r)), σ2, 0))
    (k : Er (d + 1) 166 (47, [some (.ref x0), some (.ref x1), some (.long x2), none, some (.int x4)], [.long r, .int x4, .ref x1], σ2) q) :
    Er (d + 1) 166 (39, [some (.ref x0), some (.ref x1), some (.long x2), none, some (.int x4)], [], σ) q := Er.sT (c2 := (40, [some (.ref x0), some (.ref x1), some (.long x2), none, some (.int x4)], [.ref x1], σ)) r166_39 rfl rfl <| Er.sT (c2 := (42, [some (.ref x0), some (.ref x1), some (.long x2), none, some (.int x4)], [.int x4, .ref x1], σ)) r166_40 rfl rfl <| Er.sT (c2 := (43, [some (.ref x0), some (.ref x1), some (.long x2), none, some (.int x4)], [.ref x0, .int x4, .ref x1], σ)) r166_42 rfl rfl <| Er.sT (c2 := (44, [some (.ref x0), some (.ref x1), some (.long x2), none, some (.int x4)], [.long x2, .ref x0, .int x4, .ref x1], σ)) r166_43 rfl rfl <| (Er.call (vs := [.ref x0, .long x2]) (rest := [.int x4, .ref x1]) r166_44 rfl rfl (Nat.le_of_ble_eq_true rfl) (Nat.le_of_ble_eq_true rfl) (fun _ => ⟨_, _, rfl, h1⟩) hy k)
theorem b166_47 {d : Nat} {q : Rs} {x0 : Nat} {x1 : Nat} {x2 : Int64} {x4 : Int32} {s0 : Nat} {s1 : Int32} {s2 : Int64} {σ : St} {σ2 : St} {r : Int32} (h1 : x0 = 46 ∨ x0 = 47)
    (hy : Er d 146 (0, ent 146 [.ref x0, .long x2], [], σ) (.inl (some (.int r)), σ2, 0))
    (k : Er (d + 1) 166 (52, [some (.ref x0), some (.ref x1), some (.long x2), none, some (.int x4)], [.int r, .long s2, .int s1, .ref s0], σ2) q) :
    Er (d + 1) 166 (47, [some (.ref x0), some (.ref x1), some (.long x2), none, some (.int x4)], [.long s2, .int s1, .ref s0], σ) q := Er.sT (c2 := (48, [some (.ref x0), some (.ref x1), some (.long x2), none, some (.int x4)], [.ref x0, .long s2, .int s1, .ref s0], σ)) r166_47 rfl rfl <| Er.sT (c2 := (49, [some (.ref x0), some (.ref x1), some (.long x2), none, some (.int x4)], [.long x2, .ref x0, .long s2, .int s1, .ref s0], σ)) r166_48 rfl rfl <| (Er.call (vs := [.ref x0, .long x2]) (rest := [.long s2, .int s1, .ref s0]) r166_49 rfl rfl (Nat.le_of_ble_eq_true rfl) (Nat.le_of_ble_eq_true rfl) (fun _ => ⟨_, _, rfl, h1⟩) hy k)
theorem b166_52 {d : Nat} {q : Rs} {x0 : Nat} {x1 : Nat} {x2 : Int64} {x4 : Int32} {s0 : Nat} {s1 : Int32} {s2 : Int64} {s3 : Int32} {σ : St} {σ2 : St} {r : Int64} (h1 : s0 = 46 ∨ s0 = 47)
    (hy : Er d 148 (0, ent 148 [.ref s0, .int s1, .long s2, .int s3, .int (0 : Int32), .int (0 : Int32)], [], σ) (.inl (some (.long r)), σ2, 0))
    (k : Er (d + 1) 166 (57, [some (.ref x0), some (.ref x1), some (.long x2), none, some (.int x4)], [.long r], σ2) q) :
    Er (d + 1) 166 (52, [some (.ref x0), some (.ref x1), some (.long x2), none, some (.int x4)], [.int s3, .long s2, .int s1, .ref s0], σ) q := Er.sT (c2 := (53, [some (.ref x0), some (.ref x1), some (.long x2), none, some (.int x4)], [.int (0 : Int32), .int s3, .long s2, .int s1, .ref s0], σ)) r166_52 rfl rfl <| Er.sT (c2 := (54, [some (.ref x0), some (.ref x1), some (.long x2), none, some (.int x4)], [.int (0 : Int32), .int (0 : Int32), .int s3, .long s2, .int s1, .ref s0], σ)) r166_53 rfl rfl <| (Er.call (vs := [.ref s0, .int s1, .long s2, .int s3, .int (0 : Int32), .int (0 : Int32)]) (rest := []) r166_54 rfl rfl (Nat.le_of_ble_eq_true rfl) (Nat.le_of_ble_eq_true rfl) (fun _ => ⟨_, _, rfl, h1⟩) hy k)
theorem b166_57 {d : Nat} {x0 : Nat} {x1 : Nat} {x2 : Int64} {x4 : Int32} {s0 : Int64} {σ : St}  :
    Er (d + 1) 166 (57, [some (.ref x0), some (.ref x1), some (.long x2), none, some (.int x4)], [.long s0], σ) (.inl (some (.long s0)), σ, 0) := (Er.ret r166_57 rfl ⟨_, rfl, rfl, rfl⟩)
/-! NumberModelsLaw.whole(LNumberModels;J[J)I -/
theorem tab_167 : tab 167 = tb167_0 := rfl
theorem ch167_0 {j : Nat} {r : Row} (h : tb167_0[j]? = some r) : rowAt 167 r.1 = some r := row_mem 167 (by decide) (by rw [tab_167]; exact List.mem_of_getElem? h)
theorem r167_0 : rowAt 167 0 = some (ra 0 1 (.aload_n 3) 3 0 0) := ch167_0 (j := 0) rfl
theorem r167_1 : rowAt 167 1 = some (r0 1 2 (.iconst 0)) := ch167_0 (j := 1) rfl
theorem r167_2 : rowAt 167 2 = some (r0 2 3 (.aload_n 0)) := ch167_0 (j := 2) rfl
theorem r167_3 : rowAt 167 3 = some (ra 3 4 (.lload_n 1) 1 0 0) := ch167_0 (j := 3) rfl
theorem r167_4 : rowAt 167 4 = some (ra 4 7 (.invokevirtual 7) 39 2 233) := ch167_0 (j := 4) rfl
theorem r167_7 : rowAt 167 7 = some (r0 7 8 (.i2l)) := ch167_0 (j := 5) rfl
theorem r167_8 : rowAt 167 8 = some (r0 8 9 (.lastore)) := ch167_0 (j := 6) rfl
theorem r167_9 : rowAt 167 9 = some (ra 9 12 (.goto 7) 16 0 0) := ch167_0 (j := 7) rfl
theorem r167_14 : rowAt 167 14 = some (14, 15, .iconst 1, 0, 0, 0, 1, 0) := ch167_0 (j := 9) rfl
theorem r167_15 : rowAt 167 15 = some (r0 15 16 (.ireturn)) := ch167_0 (j := 10) rfl
theorem r167_16 : rowAt 167 16 = some (r0 16 17 (.iconst 0)) := ch167_0 (j := 11) rfl
theorem r167_17 : rowAt 167 17 = some (r0 17 18 (.ireturn)) := ch167_0 (j := 12) rfl
theorem b167_0 {d : Nat} {q : Rs} {x0 : Nat} {x1 : Int64} {x3 : Nat} {σ : St} {σ2 : St} {r : Int32} (h1 : x0 < 24 ∧ kls x0 = 4)
    (hy : Er d 39 (0, ent 39 [.ref x0, .long x1], [], σ) (.inl (some (.int r)), σ2, 0))
    (k : Er (d + 1) 167 (7, [some (.ref x0), some (.long x1), none, some (.ref x3), none], [.int r, .int (0 : Int32), .ref x3], σ2) q) :
    Er (d + 1) 167 (0, [some (.ref x0), some (.long x1), none, some (.ref x3), none], [], σ) q := Er.sT (c2 := (1, [some (.ref x0), some (.long x1), none, some (.ref x3), none], [.ref x3], σ)) r167_0 rfl rfl <| Er.sT (c2 := (2, [some (.ref x0), some (.long x1), none, some (.ref x3), none], [.int (0 : Int32), .ref x3], σ)) r167_1 rfl rfl <| Er.sT (c2 := (3, [some (.ref x0), some (.long x1), none, some (.ref x3), none], [.ref x0, .int (0 : Int32), .ref x3], σ)) r167_2 rfl rfl <| Er.sT (c2 := (4, [some (.ref x0), some (.long x1), none, some (.ref x3), none], [.long x1, .ref x0, .int (0 : Int32), .ref x3], σ)) r167_3 rfl rfl <| (Er.call (vs := [.ref x0, .long x1]) (rest := [.int (0 : Int32), .ref x3]) r167_4 rfl rfl (Nat.le_of_ble_eq_true rfl) (Nat.le_of_ble_eq_true rfl) (fun _ => ⟨_, _, rfl, h1⟩) hy k)
theorem b167_0x3 {d c9 : Nat} {q : Rs} {x0 : Nat} {x1 : Int64} {x3 : Nat} {σ : St} {σ2 : St} (h1 : x0 < 24 ∧ kls x0 = 4)
    (hy : Er d 39 (0, ent 39 [.ref x0, .long x1], [], σ) (.inr 3, σ2, c9))
    (k : Er (d + 1) 167 (14, [some (.ref x0), some (.long x1), none, some (.ref x3), none], [], σ2) q) :
    Er (d + 1) 167 (0, [some (.ref x0), some (.long x1), none, some (.ref x3), none], [], σ) (q.1, q.2.1, c9 + q.2.2) := Er.sT (c2 := (1, [some (.ref x0), some (.long x1), none, some (.ref x3), none], [.ref x3], σ)) r167_0 rfl rfl <| Er.sT (c2 := (2, [some (.ref x0), some (.long x1), none, some (.ref x3), none], [.int (0 : Int32), .ref x3], σ)) r167_1 rfl rfl <| Er.sT (c2 := (3, [some (.ref x0), some (.long x1), none, some (.ref x3), none], [.ref x0, .int (0 : Int32), .ref x3], σ)) r167_2 rfl rfl <| Er.sT (c2 := (4, [some (.ref x0), some (.long x1), none, some (.ref x3), none], [.long x1, .ref x0, .int (0 : Int32), .ref x3], σ)) r167_3 rfl rfl <| (Er.callh (x := 3) (hp := 12) (vs := [.ref x0, .long x1]) (rest := [.int (0 : Int32), .ref x3]) r167_4 rfl rfl (Nat.le_of_ble_eq_true rfl) (Nat.le_of_ble_eq_true rfl) (fun _ => ⟨_, _, rfl, h1⟩) (by decide) rfl rfl rfl rfl hy k)
theorem b167_7 {d : Nat} {q : Rs} {x0 : Nat} {x1 : Int64} {x3 : Nat} {s0 : Nat} {s1 : Int32} {s2 : Int32} {σ : St} (h1 : isL s0 ∧ vp_in s1 (ale s0))
    (k : Er (d + 1) 167 (16, [some (.ref x0), some (.long x1), none, some (.ref x3), none], [], (sal σ s0 s1.toNatClampNeg (s2.toInt64))) q) :
    Er (d + 1) 167 (7, [some (.ref x0), some (.long x1), none, some (.ref x3), none], [.int s2, .int s1, .ref s0], σ) q := Er.sT (c2 := (8, [some (.ref x0), some (.long x1), none, some (.ref x3), none], [.long (s2.toInt64), .int s1, .ref s0], σ)) r167_7 rfl rfl <| Er.st (P := (isL s0 ∧ vp_in s1 (ale s0))) (c2 := (9, [some (.ref x0), some (.long x1), none, some (.ref x3), none], [], (sal σ s0 s1.toNatClampNeg (s2.toInt64)))) r167_8 rfl rfl h1 <| Er.sT (c2 := (16, [some (.ref x0), some (.long x1), none, some (.ref x3), none], [], (sal σ s0 s1.toNatClampNeg (s2.toInt64)))) r167_9 rfl rfl <| k
theorem b167_14 {d : Nat} {x0 : Nat} {x1 : Int64} {x3 : Nat} {σ : St}  :
    Er (d + 1) 167 (14, [some (.ref x0), some (.long x1), none, some (.ref x3), none], [], σ) (.inl (some (.int (1 : Int32))), σ, 0) := Er.sT (c2 := (15, [some (.ref x0), some (.long x1), none, some (.ref x3), none], [.int (1 : Int32)], σ)) r167_14 rfl rfl <| (Er.ret r167_15 rfl ⟨_, _, rfl, rfl, rfl, rfl⟩)
theorem b167_16 {d : Nat} {x0 : Nat} {x1 : Int64} {x3 : Nat} {σ : St}  :
    Er (d + 1) 167 (16, [some (.ref x0), some (.long x1), none, some (.ref x3), none], [], σ) (.inl (some (.int (0 : Int32))), σ, 0) := Er.sT (c2 := (17, [some (.ref x0), some (.long x1), none, some (.ref x3), none], [.int (0 : Int32)], σ)) r167_16 rfl rfl <| (Er.ret r167_17 rfl ⟨_, _, rfl, rfl, rfl, rfl⟩)
/-! NumberModelsLaw.fraction(LNumberModels;JJ[J)I -/
theorem tab_168 : tab 168 = tb168_0 := rfl
theorem ch168_0 {j : Nat} {r : Row} (h : tb168_0[j]? = some r) : rowAt 168 r.1 = some r := row_mem 168 (by decide) (by rw [tab_168]; exact List.mem_of_getElem? h)
theorem r168_0 : rowAt 168 0 = some (ra 0 2 (.aload 5) 5 0 0) := ch168_0 (j := 0) rfl
theorem r168_2 : rowAt 168 2 = some (r0 2 3 (.iconst 0)) := ch168_0 (j := 1) rfl
theorem r168_3 : rowAt 168 3 = some (r0 3 4 (.aload_n 0)) := ch168_0 (j := 2) rfl
theorem r168_4 : rowAt 168 4 = some (ra 4 5 (.lload_n 1) 1 0 0) := ch168_0 (j := 3) rfl
theorem r168_5 : rowAt 168 5 = some (ra 5 6 (.lload_n 3) 3 0 0) := ch168_0 (j := 4) rfl
theorem r168_6 : rowAt 168 6 = some (ra 6 9 (.invokevirtual 15) 45 3 353) := ch168_0 (j := 5) rfl
theorem r168_9 : rowAt 168 9 = some (r0 9 10 (.i2l)) := ch168_0 (j := 6) rfl
theorem r168_10 : rowAt 168 10 = some (r0 10 11 (.lastore)) := ch168_0 (j := 7) rfl
theorem r168_11 : rowAt 168 11 = some (ra 11 14 (.goto 11) 22 0 0) := ch168_0 (j := 8) rfl
theorem r168_16 : rowAt 168 16 = some (16, 17, .iconst 1, 0, 0, 0, 1, 0) := ch168_0 (j := 10) rfl
theorem r168_17 : rowAt 168 17 = some (r0 17 18 (.ireturn)) := ch168_0 (j := 11) rfl
theorem r168_20 : rowAt 168 20 = some (20, 21, .iconst 2, 0, 0, 0, 2, 0) := ch168_0 (j := 13) rfl
theorem r168_21 : rowAt 168 21 = some (r0 21 22 (.ireturn)) := ch168_0 (j := 14) rfl
theorem r168_22 : rowAt 168 22 = some (r0 22 23 (.iconst 0)) := ch168_0 (j := 15) rfl
theorem r168_23 : rowAt 168 23 = some (r0 23 24 (.ireturn)) := ch168_0 (j := 16) rfl
theorem b168_0 {d : Nat} {q : Rs} {x0 : Nat} {x1 : Int64} {x3 : Int64} {x5 : Nat} {σ : St} {σ2 : St} {r : Int32} (h1 : x0 < 24 ∧ kls x0 = 4)
    (hy : Er d 45 (0, ent 45 [.ref x0, .long x1, .long x3], [], σ) (.inl (some (.int r)), σ2, 0))
    (k : Er (d + 1) 168 (9, [some (.ref x0), some (.long x1), none, some (.long x3), none, some (.ref x5), none], [.int r, .int (0 : Int32), .ref x5], σ2) q) :
    Er (d + 1) 168 (0, [some (.ref x0), some (.long x1), none, some (.long x3), none, some (.ref x5), none], [], σ) q := Er.sT (c2 := (2, [some (.ref x0), some (.long x1), none, some (.long x3), none, some (.ref x5), none], [.ref x5], σ)) r168_0 rfl rfl <| Er.sT (c2 := (3, [some (.ref x0), some (.long x1), none, some (.long x3), none, some (.ref x5), none], [.int (0 : Int32), .ref x5], σ)) r168_2 rfl rfl <| Er.sT (c2 := (4, [some (.ref x0), some (.long x1), none, some (.long x3), none, some (.ref x5), none], [.ref x0, .int (0 : Int32), .ref x5], σ)) r168_3 rfl rfl <| Er.sT (c2 := (5, [some (.ref x0), some (.long x1), none, some (.long x3), none, some (.ref x5), none], [.long x1, .ref x0, .int (0 : Int32), .ref x5], σ)) r168_4 rfl rfl <| Er.sT (c2 := (6, [some (.ref x0), some (.long x1), none, some (.long x3), none, some (.ref x5), none], [.long x3, .long x1, .ref x0, .int (0 : Int32), .ref x5], σ)) r168_5 rfl rfl <| (Er.call (vs := [.ref x0, .long x1, .long x3]) (rest := [.int (0 : Int32), .ref x5]) r168_6 rfl rfl (Nat.le_of_ble_eq_true rfl) (Nat.le_of_ble_eq_true rfl) (fun _ => ⟨_, _, rfl, h1⟩) hy k)
theorem b168_0x2 {d c9 : Nat} {q : Rs} {x0 : Nat} {x1 : Int64} {x3 : Int64} {x5 : Nat} {σ : St} {σ2 : St} (h1 : x0 < 24 ∧ kls x0 = 4)
    (hy : Er d 45 (0, ent 45 [.ref x0, .long x1, .long x3], [], σ) (.inr 2, σ2, c9))
    (k : Er (d + 1) 168 (16, [some (.ref x0), some (.long x1), none, some (.long x3), none, some (.ref x5), none], [], σ2) q) :
    Er (d + 1) 168 (0, [some (.ref x0), some (.long x1), none, some (.long x3), none, some (.ref x5), none], [], σ) (q.1, q.2.1, c9 + q.2.2) := Er.sT (c2 := (2, [some (.ref x0), some (.long x1), none, some (.long x3), none, some (.ref x5), none], [.ref x5], σ)) r168_0 rfl rfl <| Er.sT (c2 := (3, [some (.ref x0), some (.long x1), none, some (.long x3), none, some (.ref x5), none], [.int (0 : Int32), .ref x5], σ)) r168_2 rfl rfl <| Er.sT (c2 := (4, [some (.ref x0), some (.long x1), none, some (.long x3), none, some (.ref x5), none], [.ref x0, .int (0 : Int32), .ref x5], σ)) r168_3 rfl rfl <| Er.sT (c2 := (5, [some (.ref x0), some (.long x1), none, some (.long x3), none, some (.ref x5), none], [.long x1, .ref x0, .int (0 : Int32), .ref x5], σ)) r168_4 rfl rfl <| Er.sT (c2 := (6, [some (.ref x0), some (.long x1), none, some (.long x3), none, some (.ref x5), none], [.long x3, .long x1, .ref x0, .int (0 : Int32), .ref x5], σ)) r168_5 rfl rfl <| (Er.callh (x := 2) (hp := 14) (vs := [.ref x0, .long x1, .long x3]) (rest := [.int (0 : Int32), .ref x5]) r168_6 rfl rfl (Nat.le_of_ble_eq_true rfl) (Nat.le_of_ble_eq_true rfl) (fun _ => ⟨_, _, rfl, h1⟩) (by decide) rfl rfl rfl rfl hy k)
theorem b168_0x3 {d c9 : Nat} {q : Rs} {x0 : Nat} {x1 : Int64} {x3 : Int64} {x5 : Nat} {σ : St} {σ2 : St} (h1 : x0 < 24 ∧ kls x0 = 4)
    (hy : Er d 45 (0, ent 45 [.ref x0, .long x1, .long x3], [], σ) (.inr 3, σ2, c9))
    (k : Er (d + 1) 168 (20, [some (.ref x0), some (.long x1), none, some (.long x3), none, some (.ref x5), none], [], σ2) q) :
    Er (d + 1) 168 (0, [some (.ref x0), some (.long x1), none, some (.long x3), none, some (.ref x5), none], [], σ) (q.1, q.2.1, c9 + q.2.2) := Er.sT (c2 := (2, [some (.ref x0), some (.long x1), none, some (.long x3), none, some (.ref x5), none], [.ref x5], σ)) r168_0 rfl rfl <| Er.sT (c2 := (3, [some (.ref x0), some (.long x1), none, some (.long x3), none, some (.ref x5), none], [.int (0 : Int32), .ref x5], σ)) r168_2 rfl rfl <| Er.sT (c2 := (4, [some (.ref x0), some (.long x1), none, some (.long x3), none, some (.ref x5), none], [.ref x0, .int (0 : Int32), .ref x5], σ)) r168_3 rfl rfl <| Er.sT (c2 := (5, [some (.ref x0), some (.long x1), none, some (.long x3), none, some (.ref x5), none], [.long x1, .ref x0, .int (0 : Int32), .ref x5], σ)) r168_4 rfl rfl <| Er.sT (c2 := (6, [some (.ref x0), some (.long x1), none, some (.long x3), none, some (.ref x5), none], [.long x3, .long x1, .ref x0, .int (0 : Int32), .ref x5], σ)) r168_5 rfl rfl <| (Er.callh (x := 3) (hp := 18) (vs := [.ref x0, .long x1, .long x3]) (rest := [.int (0 : Int32), .ref x5]) r168_6 rfl rfl (Nat.le_of_ble_eq_true rfl) (Nat.le_of_ble_eq_true rfl) (fun _ => ⟨_, _, rfl, h1⟩) (by decide) rfl rfl rfl rfl hy k)
theorem b168_9 {d : Nat} {q : Rs} {x0 : Nat} {x1 : Int64} {x3 : Int64} {x5 : Nat} {s0 : Nat} {s1 : Int32} {s2 : Int32} {σ : St} (h1 : isL s0 ∧ vp_in s1 (ale s0))
    (k : Er (d + 1) 168 (22, [some (.ref x0), some (.long x1), none, some (.long x3), none, some (.ref x5), none], [], (sal σ s0 s1.toNatClampNeg (s2.toInt64))) q) :
    Er (d + 1) 168 (9, [some (.ref x0), some (.long x1), none, some (.long x3), none, some (.ref x5), none], [.int s2, .int s1, .ref s0], σ) q := Er.sT (c2 := (10, [some (.ref x0), some (.long x1), none, some (.long x3), none, some (.ref x5), none], [.long (s2.toInt64), .int s1, .ref s0], σ)) r168_9 rfl rfl <| Er.st (P := (isL s0 ∧ vp_in s1 (ale s0))) (c2 := (11, [some (.ref x0), some (.long x1), none, some (.long x3), none, some (.ref x5), none], [], (sal σ s0 s1.toNatClampNeg (s2.toInt64)))) r168_10 rfl rfl h1 <| Er.sT (c2 := (22, [some (.ref x0), some (.long x1), none, some (.long x3), none, some (.ref x5), none], [], (sal σ s0 s1.toNatClampNeg (s2.toInt64)))) r168_11 rfl rfl <| k
theorem b168_16 {d : Nat} {x0 : Nat} {x1 : Int64} {x3 : Int64} {x5 : Nat} {σ : St}  :
    Er (d + 1) 168 (16, [some (.ref x0), some (.long x1), none, some (.long x3), none, some (.ref x5), none], [], σ) (.inl (some (.int (1 : Int32))), σ, 0) := Er.sT (c2 := (17, [some (.ref x0), some (.long x1), none, some (.long x3), none, some (.ref x5), none], [.int (1 : Int32)], σ)) r168_16 rfl rfl <| (Er.ret r168_17 rfl ⟨_, _, rfl, rfl, rfl, rfl⟩)
theorem b168_20 {d : Nat} {x0 : Nat} {x1 : Int64} {x3 : Int64} {x5 : Nat} {σ : St}  :
    Er (d + 1) 168 (20, [some (.ref x0), some (.long x1), none, some (.long x3), none, some (.ref x5), none], [], σ) (.inl (some (.int (2 : Int32))), σ, 0) := Er.sT (c2 := (21, [some (.ref x0), some (.long x1), none, some (.long x3), none, some (.ref x5), none], [.int (2 : Int32)], σ)) r168_20 rfl rfl <| (Er.ret r168_21 rfl ⟨_, _, rfl, rfl, rfl, rfl⟩)
theorem b168_22 {d : Nat} {x0 : Nat} {x1 : Int64} {x3 : Int64} {x5 : Nat} {σ : St}  :
    Er (d + 1) 168 (22, [some (.ref x0), some (.long x1), none, some (.long x3), none, some (.ref x5), none], [], σ) (.inl (some (.int (0 : Int32))), σ, 0) := Er.sT (c2 := (23, [some (.ref x0), some (.long x1), none, some (.long x3), none, some (.ref x5), none], [.int (0 : Int32)], σ)) r168_22 rfl rfl <| (Er.ret r168_23 rfl ⟨_, _, rfl, rfl, rfl, rfl⟩)
/-! NumberModelsLaw.real(LNumberModels;J[J)I -/
theorem tab_169 : tab 169 = tb169_0 := rfl
theorem ch169_0 {j : Nat} {r : Row} (h : tb169_0[j]? = some r) : rowAt 169 r.1 = some r := row_mem 169 (by decide) (by rw [tab_169]; exact List.mem_of_getElem? h)
theorem r169_0 : rowAt 169 0 = some (ra 0 1 (.aload_n 3) 3 0 0) := ch169_0 (j := 0) rfl
theorem r169_1 : rowAt 169 1 = some (r0 1 2 (.iconst 0)) := ch169_0 (j := 1) rfl
theorem r169_2 : rowAt 169 2 = some (r0 2 3 (.aload_n 0)) := ch169_0 (j := 2) rfl
theorem r169_3 : rowAt 169 3 = some (ra 3 4 (.lload_n 1) 1 0 0) := ch169_0 (j := 3) rfl
theorem r169_4 : rowAt 169 4 = some (ra 4 7 (.invokevirtual 21) 47 2 490) := ch169_0 (j := 4) rfl
theorem r169_7 : rowAt 169 7 = some (r0 7 8 (.i2l)) := ch169_0 (j := 5) rfl
theorem r169_8 : rowAt 169 8 = some (r0 8 9 (.lastore)) := ch169_0 (j := 6) rfl
theorem r169_9 : rowAt 169 9 = some (ra 9 12 (.goto 11) 20 0 0) := ch169_0 (j := 7) rfl
theorem r169_14 : rowAt 169 14 = some (14, 15, .iconst 1, 0, 0, 0, 1, 0) := ch169_0 (j := 9) rfl
theorem r169_15 : rowAt 169 15 = some (r0 15 16 (.ireturn)) := ch169_0 (j := 10) rfl
theorem r169_18 : rowAt 169 18 = some (18, 19, .iconst 2, 0, 0, 0, 2, 0) := ch169_0 (j := 12) rfl
theorem r169_19 : rowAt 169 19 = some (r0 19 20 (.ireturn)) := ch169_0 (j := 13) rfl
theorem r169_20 : rowAt 169 20 = some (r0 20 21 (.iconst 0)) := ch169_0 (j := 14) rfl
theorem r169_21 : rowAt 169 21 = some (r0 21 22 (.ireturn)) := ch169_0 (j := 15) rfl
theorem b169_0 {d : Nat} {q : Rs} {x0 : Nat} {x1 : Int64} {x3 : Nat} {σ : St} {σ2 : St} {r : Int32} (h1 : x0 < 24 ∧ kls x0 = 4)
    (hy : Er d 47 (0, ent 47 [.ref x0, .long x1], [], σ) (.inl (some (.int r)), σ2, 0))
    (k : Er (d + 1) 169 (7, [some (.ref x0), some (.long x1), none, some (.ref x3), none], [.int r, .int (0 : Int32), .ref x3], σ2) q) :
    Er (d + 1) 169 (0, [some (.ref x0), some (.long x1), none, some (.ref x3), none], [], σ) q := Er.sT (c2 := (1, [some (.ref x0), some (.long x1), none, some (.ref x3), none], [.ref x3], σ)) r169_0 rfl rfl <| Er.sT (c2 := (2, [some (.ref x0), some (.long x1), none, some (.ref x3), none], [.int (0 : Int32), .ref x3], σ)) r169_1 rfl rfl <| Er.sT (c2 := (3, [some (.ref x0), some (.long x1), none, some (.ref x3), none], [.ref x0, .int (0 : Int32), .ref x3], σ)) r169_2 rfl rfl <| Er.sT (c2 := (4, [some (.ref x0), some (.long x1), none, some (.ref x3), none], [.long x1, .ref x0, .int (0 : Int32), .ref x3], σ)) r169_3 rfl rfl <| (Er.call (vs := [.ref x0, .long x1]) (rest := [.int (0 : Int32), .ref x3]) r169_4 rfl rfl (Nat.le_of_ble_eq_true rfl) (Nat.le_of_ble_eq_true rfl) (fun _ => ⟨_, _, rfl, h1⟩) hy k)
theorem b169_0x2 {d c9 : Nat} {q : Rs} {x0 : Nat} {x1 : Int64} {x3 : Nat} {σ : St} {σ2 : St} (h1 : x0 < 24 ∧ kls x0 = 4)
    (hy : Er d 47 (0, ent 47 [.ref x0, .long x1], [], σ) (.inr 2, σ2, c9))
    (k : Er (d + 1) 169 (14, [some (.ref x0), some (.long x1), none, some (.ref x3), none], [], σ2) q) :
    Er (d + 1) 169 (0, [some (.ref x0), some (.long x1), none, some (.ref x3), none], [], σ) (q.1, q.2.1, c9 + q.2.2) := Er.sT (c2 := (1, [some (.ref x0), some (.long x1), none, some (.ref x3), none], [.ref x3], σ)) r169_0 rfl rfl <| Er.sT (c2 := (2, [some (.ref x0), some (.long x1), none, some (.ref x3), none], [.int (0 : Int32), .ref x3], σ)) r169_1 rfl rfl <| Er.sT (c2 := (3, [some (.ref x0), some (.long x1), none, some (.ref x3), none], [.ref x0, .int (0 : Int32), .ref x3], σ)) r169_2 rfl rfl <| Er.sT (c2 := (4, [some (.ref x0), some (.long x1), none, some (.ref x3), none], [.long x1, .ref x0, .int (0 : Int32), .ref x3], σ)) r169_3 rfl rfl <| (Er.callh (x := 2) (hp := 12) (vs := [.ref x0, .long x1]) (rest := [.int (0 : Int32), .ref x3]) r169_4 rfl rfl (Nat.le_of_ble_eq_true rfl) (Nat.le_of_ble_eq_true rfl) (fun _ => ⟨_, _, rfl, h1⟩) (by decide) rfl rfl rfl rfl hy k)
theorem b169_0x3 {d c9 : Nat} {q : Rs} {x0 : Nat} {x1 : Int64} {x3 : Nat} {σ : St} {σ2 : St} (h1 : x0 < 24 ∧ kls x0 = 4)
    (hy : Er d 47 (0, ent 47 [.ref x0, .long x1], [], σ) (.inr 3, σ2, c9))
    (k : Er (d + 1) 169 (18, [some (.ref x0), some (.long x1), none, some (.ref x3), none], [], σ2) q) :
    Er (d + 1) 169 (0, [some (.ref x0), some (.long x1), none, some (.ref x3), none], [], σ) (q.1, q.2.1, c9 + q.2.2) := Er.sT (c2 := (1, [some (.ref x0), some (.long x1), none, some (.ref x3), none], [.ref x3], σ)) r169_0 rfl rfl <| Er.sT (c2 := (2, [some (.ref x0), some (.long x1), none, some (.ref x3), none], [.int (0 : Int32), .ref x3], σ)) r169_1 rfl rfl <| Er.sT (c2 := (3, [some (.ref x0), some (.long x1), none, some (.ref x3), none], [.ref x0, .int (0 : Int32), .ref x3], σ)) r169_2 rfl rfl <| Er.sT (c2 := (4, [some (.ref x0), some (.long x1), none, some (.ref x3), none], [.long x1, .ref x0, .int (0 : Int32), .ref x3], σ)) r169_3 rfl rfl <| (Er.callh (x := 3) (hp := 16) (vs := [.ref x0, .long x1]) (rest := [.int (0 : Int32), .ref x3]) r169_4 rfl rfl (Nat.le_of_ble_eq_true rfl) (Nat.le_of_ble_eq_true rfl) (fun _ => ⟨_, _, rfl, h1⟩) (by decide) rfl rfl rfl rfl hy k)
theorem b169_7 {d : Nat} {q : Rs} {x0 : Nat} {x1 : Int64} {x3 : Nat} {s0 : Nat} {s1 : Int32} {s2 : Int32} {σ : St} (h1 : isL s0 ∧ vp_in s1 (ale s0))
    (k : Er (d + 1) 169 (20, [some (.ref x0), some (.long x1), none, some (.ref x3), none], [], (sal σ s0 s1.toNatClampNeg (s2.toInt64))) q) :
    Er (d + 1) 169 (7, [some (.ref x0), some (.long x1), none, some (.ref x3), none], [.int s2, .int s1, .ref s0], σ) q := Er.sT (c2 := (8, [some (.ref x0), some (.long x1), none, some (.ref x3), none], [.long (s2.toInt64), .int s1, .ref s0], σ)) r169_7 rfl rfl <| Er.st (P := (isL s0 ∧ vp_in s1 (ale s0))) (c2 := (9, [some (.ref x0), some (.long x1), none, some (.ref x3), none], [], (sal σ s0 s1.toNatClampNeg (s2.toInt64)))) r169_8 rfl rfl h1 <| Er.sT (c2 := (20, [some (.ref x0), some (.long x1), none, some (.ref x3), none], [], (sal σ s0 s1.toNatClampNeg (s2.toInt64)))) r169_9 rfl rfl <| k
theorem b169_14 {d : Nat} {x0 : Nat} {x1 : Int64} {x3 : Nat} {σ : St}  :
    Er (d + 1) 169 (14, [some (.ref x0), some (.long x1), none, some (.ref x3), none], [], σ) (.inl (some (.int (1 : Int32))), σ, 0) := Er.sT (c2 := (15, [some (.ref x0), some (.long x1), none, some (.ref x3), none], [.int (1 : Int32)], σ)) r169_14 rfl rfl <| (Er.ret r169_15 rfl ⟨_, _, rfl, rfl, rfl, rfl⟩)
theorem b169_18 {d : Nat} {x0 : Nat} {x1 : Int64} {x3 : Nat} {σ : St}  :
    Er (d + 1) 169 (18, [some (.ref x0), some (.long x1), none, some (.ref x3), none], [], σ) (.inl (some (.int (2 : Int32))), σ, 0) := Er.sT (c2 := (19, [some (.ref x0), some (.long x1), none, some (.ref x3), none], [.int (2 : Int32)], σ)) r169_18 rfl rfl <| (Er.ret r169_19 rfl ⟨_, _, rfl, rfl, rfl, rfl⟩)
theorem b169_20 {d : Nat} {x0 : Nat} {x1 : Int64} {x3 : Nat} {σ : St}  :
    Er (d + 1) 169 (20, [some (.ref x0), some (.long x1), none, some (.ref x3), none], [], σ) (.inl (some (.int (0 : Int32))), σ, 0) := Er.sT (c2 := (21, [some (.ref x0), some (.long x1), none, some (.ref x3), none], [.int (0 : Int32)], σ)) r169_20 rfl rfl <| (Er.ret r169_21 rfl ⟨_, _, rfl, rfl, rfl, rfl⟩)
/-! NumberModelsLaw.act(LNumberModels;III[J)I -/
theorem tab_170 : tab 170 = tb170_0 := rfl
theorem ch170_0 {j : Nat} {r : Row} (h : tb170_0[j]? = some r) : rowAt 170 r.1 = some r := row_mem 170 (by decide) (by rw [tab_170]; exact List.mem_of_getElem? h)
theorem r170_0 : rowAt 170 0 = some (ra 0 2 (.aload 4) 4 0 0) := ch170_0 (j := 0) rfl
theorem r170_2 : rowAt 170 2 = some (r0 2 3 (.iconst 0)) := ch170_0 (j := 1) rfl
theorem r170_3 : rowAt 170 3 = some (r0 3 4 (.aload_n 0)) := ch170_0 (j := 2) rfl
theorem r170_4 : rowAt 170 4 = some (ra 4 5 (.iload_n 1) 1 0 0) := ch170_0 (j := 3) rfl
theorem r170_5 : rowAt 170 5 = some (ra 5 6 (.iload_n 2) 2 0 0) := ch170_0 (j := 4) rfl
theorem r170_6 : rowAt 170 6 = some (ra 6 7 (.iload_n 3) 3 0 0) := ch170_0 (j := 5) rfl
theorem r170_7 : rowAt 170 7 = some (ra 7 10 (.invokevirtual 24) 48 4 552) := ch170_0 (j := 6) rfl
theorem r170_10 : rowAt 170 10 = some (r0 10 11 (.i2l)) := ch170_0 (j := 7) rfl
theorem r170_11 : rowAt 170 11 = some (r0 11 12 (.lastore)) := ch170_0 (j := 8) rfl
theorem r170_12 : rowAt 170 12 = some (ra 12 15 (.goto 19) 31 0 0) := ch170_0 (j := 9) rfl
theorem r170_17 : rowAt 170 17 = some (17, 18, .iconst 1, 0, 0, 0, 1, 0) := ch170_0 (j := 11) rfl
theorem r170_18 : rowAt 170 18 = some (r0 18 19 (.ireturn)) := ch170_0 (j := 12) rfl
theorem r170_21 : rowAt 170 21 = some (21, 22, .iconst 2, 0, 0, 0, 2, 0) := ch170_0 (j := 14) rfl
theorem r170_22 : rowAt 170 22 = some (r0 22 23 (.ireturn)) := ch170_0 (j := 15) rfl
theorem r170_25 : rowAt 170 25 = some (25, 26, .iconst 3, 0, 0, 0, 3, 0) := ch170_0 (j := 17) rfl
theorem r170_26 : rowAt 170 26 = some (r0 26 27 (.ireturn)) := ch170_0 (j := 18) rfl
theorem r170_29 : rowAt 170 29 = some (29, 30, .iconst 4, 0, 0, 0, 4, 0) := ch170_0 (j := 20) rfl
theorem r170_30 : rowAt 170 30 = some (r0 30 31 (.ireturn)) := ch170_0 (j := 21) rfl
theorem r170_31 : rowAt 170 31 = some (r0 31 32 (.iconst 0)) := ch170_0 (j := 22) rfl
theorem r170_32 : rowAt 170 32 = some (r0 32 33 (.ireturn)) := ch170_0 (j := 23) rfl
theorem b170_0 {d : Nat} {q : Rs} {x0 : Nat} {x1 : Int32} {x2 : Int32} {x3 : Int32} {x4 : Nat} {σ : St} {σ2 : St} {r : Int32} (h1 : x0 < 24 ∧ kls x0 = 4)
    (hy : Er d 48 (0, ent 48 [.ref x0, .int x1, .int x2, .int x3], [], σ) (.inl (some (.int r)), σ2, 0))
    (k : Er (d + 1) 170 (10, [some (.ref x0), some (.int x1), some (.int x2), some (.int x3), some (.ref x4), none], [.int r, .int (0 : Int32), .ref x4], σ2) q) :
    Er (d + 1) 170 (0, [some (.ref x0), some (.int x1), some (.int x2), some (.int x3), some (.ref x4), none], [], σ) q := Er.sT (c2 := (2, [some (.ref x0), some (.int x1), some (.int x2), some (.int x3), some (.ref x4), none], [.ref x4], σ)) r170_0 rfl rfl <| Er.sT (c2 := (3, [some (.ref x0), some (.int x1), some (.int x2), some (.int x3), some (.ref x4), none], [.int (0 : Int32), .ref x4], σ)) r170_2 rfl rfl <| Er.sT (c2 := (4, [some (.ref x0), some (.int x1), some (.int x2), some (.int x3), some (.ref x4), none], [.ref x0, .int (0 : Int32), .ref x4], σ)) r170_3 rfl rfl <| Er.sT (c2 := (5, [some (.ref x0), some (.int x1), some (.int x2), some (.int x3), some (.ref x4), none], [.int x1, .ref x0, .int (0 : Int32), .ref x4], σ)) r170_4 rfl rfl <| Er.sT (c2 := (6, [some (.ref x0), some (.int x1), some (.int x2), some (.int x3), some (.ref x4), none], [.int x2, .int x1, .ref x0, .int (0 : Int32), .ref x4], σ)) r170_5 rfl rfl <| Er.sT (c2 := (7, [some (.ref x0), some (.int x1), some (.int x2), some (.int x3), some (.ref x4), none], [.int x3, .int x2, .int x1, .ref x0, .int (0 : Int32), .ref x4], σ)) r170_6 rfl rfl <| (Er.call (vs := [.ref x0, .int x1, .int x2, .int x3]) (rest := [.int (0 : Int32), .ref x4]) r170_7 rfl rfl (Nat.le_of_ble_eq_true rfl) (Nat.le_of_ble_eq_true rfl) (fun _ => ⟨_, _, rfl, h1⟩) hy k)
theorem b170_0x0 {d c9 : Nat} {q : Rs} {x0 : Nat} {x1 : Int32} {x2 : Int32} {x3 : Int32} {x4 : Nat} {σ : St} {σ2 : St} (h1 : x0 < 24 ∧ kls x0 = 4)
    (hy : Er d 48 (0, ent 48 [.ref x0, .int x1, .int x2, .int x3], [], σ) (.inr 0, σ2, c9))
    (k : Er (d + 1) 170 (17, [some (.ref x0), some (.int x1), some (.int x2), some (.int x3), some (.ref x4), none], [], σ2) q) :
    Er (d + 1) 170 (0, [some (.ref x0), some (.int x1), some (.int x2), some (.int x3), some (.ref x4), none], [], σ) (q.1, q.2.1, c9 + q.2.2) := Er.sT (c2 := (2, [some (.ref x0), some (.int x1), some (.int x2), some (.int x3), some (.ref x4), none], [.ref x4], σ)) r170_0 rfl rfl <| Er.sT (c2 := (3, [some (.ref x0), some (.int x1), some (.int x2), some (.int x3), some (.ref x4), none], [.int (0 : Int32), .ref x4], σ)) r170_2 rfl rfl <| Er.sT (c2 := (4, [some (.ref x0), some (.int x1), some (.int x2), some (.int x3), some (.ref x4), none], [.ref x0, .int (0 : Int32), .ref x4], σ)) r170_3 rfl rfl <| Er.sT (c2 := (5, [some (.ref x0), some (.int x1), some (.int x2), some (.int x3), some (.ref x4), none], [.int x1, .ref x0, .int (0 : Int32), .ref x4], σ)) r170_4 rfl rfl <| Er.sT (c2 := (6, [some (.ref x0), some (.int x1), some (.int x2), some (.int x3), some (.ref x4), none], [.int x2, .int x1, .ref x0, .int (0 : Int32), .ref x4], σ)) r170_5 rfl rfl <| Er.sT (c2 := (7, [some (.ref x0), some (.int x1), some (.int x2), some (.int x3), some (.ref x4), none], [.int x3, .int x2, .int x1, .ref x0, .int (0 : Int32), .ref x4], σ)) r170_6 rfl rfl <| (Er.callh (x := 0) (hp := 15) (vs := [.ref x0, .int x1, .int x2, .int x3]) (rest := [.int (0 : Int32), .ref x4]) r170_7 rfl rfl (Nat.le_of_ble_eq_true rfl) (Nat.le_of_ble_eq_true rfl) (fun _ => ⟨_, _, rfl, h1⟩) (by decide) rfl rfl rfl rfl hy k)
theorem b170_0x1 {d c9 : Nat} {q : Rs} {x0 : Nat} {x1 : Int32} {x2 : Int32} {x3 : Int32} {x4 : Nat} {σ : St} {σ2 : St} (h1 : x0 < 24 ∧ kls x0 = 4)
    (hy : Er d 48 (0, ent 48 [.ref x0, .int x1, .int x2, .int x3], [], σ) (.inr 1, σ2, c9))
    (k : Er (d + 1) 170 (21, [some (.ref x0), some (.int x1), some (.int x2), some (.int x3), some (.ref x4), none], [], σ2) q) :
    Er (d + 1) 170 (0, [some (.ref x0), some (.int x1), some (.int x2), some (.int x3), some (.ref x4), none], [], σ) (q.1, q.2.1, c9 + q.2.2) := Er.sT (c2 := (2, [some (.ref x0), some (.int x1), some (.int x2), some (.int x3), some (.ref x4), none], [.ref x4], σ)) r170_0 rfl rfl <| Er.sT (c2 := (3, [some (.ref x0), some (.int x1), some (.int x2), some (.int x3), some (.ref x4), none], [.int (0 : Int32), .ref x4], σ)) r170_2 rfl rfl <| Er.sT (c2 := (4, [some (.ref x0), some (.int x1), some (.int x2), some (.int x3), some (.ref x4), none], [.ref x0, .int (0 : Int32), .ref x4], σ)) r170_3 rfl rfl <| Er.sT (c2 := (5, [some (.ref x0), some (.int x1), some (.int x2), some (.int x3), some (.ref x4), none], [.int x1, .ref x0, .int (0 : Int32), .ref x4], σ)) r170_4 rfl rfl <| Er.sT (c2 := (6, [some (.ref x0), some (.int x1), some (.int x2), some (.int x3), some (.ref x4), none], [.int x2, .int x1, .ref x0, .int (0 : Int32), .ref x4], σ)) r170_5 rfl rfl <| Er.sT (c2 := (7, [some (.ref x0), some (.int x1), some (.int x2), some (.int x3), some (.ref x4), none], [.int x3, .int x2, .int x1, .ref x0, .int (0 : Int32), .ref x4], σ)) r170_6 rfl rfl <| (Er.callh (x := 1) (hp := 19) (vs := [.ref x0, .int x1, .int x2, .int x3]) (rest := [.int (0 : Int32), .ref x4]) r170_7 rfl rfl (Nat.le_of_ble_eq_true rfl) (Nat.le_of_ble_eq_true rfl) (fun _ => ⟨_, _, rfl, h1⟩) (by decide) rfl rfl rfl rfl hy k)
theorem b170_0x2 {d c9 : Nat} {q : Rs} {x0 : Nat} {x1 : Int32} {x2 : Int32} {x3 : Int32} {x4 : Nat} {σ : St} {σ2 : St} (h1 : x0 < 24 ∧ kls x0 = 4)
    (hy : Er d 48 (0, ent 48 [.ref x0, .int x1, .int x2, .int x3], [], σ) (.inr 2, σ2, c9))
    (k : Er (d + 1) 170 (25, [some (.ref x0), some (.int x1), some (.int x2), some (.int x3), some (.ref x4), none], [], σ2) q) :
    Er (d + 1) 170 (0, [some (.ref x0), some (.int x1), some (.int x2), some (.int x3), some (.ref x4), none], [], σ) (q.1, q.2.1, c9 + q.2.2) := Er.sT (c2 := (2, [some (.ref x0), some (.int x1), some (.int x2), some (.int x3), some (.ref x4), none], [.ref x4], σ)) r170_0 rfl rfl <| Er.sT (c2 := (3, [some (.ref x0), some (.int x1), some (.int x2), some (.int x3), some (.ref x4), none], [.int (0 : Int32), .ref x4], σ)) r170_2 rfl rfl <| Er.sT (c2 := (4, [some (.ref x0), some (.int x1), some (.int x2), some (.int x3), some (.ref x4), none], [.ref x0, .int (0 : Int32), .ref x4], σ)) r170_3 rfl rfl <| Er.sT (c2 := (5, [some (.ref x0), some (.int x1), some (.int x2), some (.int x3), some (.ref x4), none], [.int x1, .ref x0, .int (0 : Int32), .ref x4], σ)) r170_4 rfl rfl <| Er.sT (c2 := (6, [some (.ref x0), some (.int x1), some (.int x2), some (.int x3), some (.ref x4), none], [.int x2, .int x1, .ref x0, .int (0 : Int32), .ref x4], σ)) r170_5 rfl rfl <| Er.sT (c2 := (7, [some (.ref x0), some (.int x1), some (.int x2), some (.int x3), some (.ref x4), none], [.int x3, .int x2, .int x1, .ref x0, .int (0 : Int32), .ref x4], σ)) r170_6 rfl rfl <| (Er.callh (x := 2) (hp := 23) (vs := [.ref x0, .int x1, .int x2, .int x3]) (rest := [.int (0 : Int32), .ref x4]) r170_7 rfl rfl (Nat.le_of_ble_eq_true rfl) (Nat.le_of_ble_eq_true rfl) (fun _ => ⟨_, _, rfl, h1⟩) (by decide) rfl rfl rfl rfl hy k)
theorem b170_0x3 {d c9 : Nat} {q : Rs} {x0 : Nat} {x1 : Int32} {x2 : Int32} {x3 : Int32} {x4 : Nat} {σ : St} {σ2 : St} (h1 : x0 < 24 ∧ kls x0 = 4)
    (hy : Er d 48 (0, ent 48 [.ref x0, .int x1, .int x2, .int x3], [], σ) (.inr 3, σ2, c9))
    (k : Er (d + 1) 170 (29, [some (.ref x0), some (.int x1), some (.int x2), some (.int x3), some (.ref x4), none], [], σ2) q) :
    Er (d + 1) 170 (0, [some (.ref x0), some (.int x1), some (.int x2), some (.int x3), some (.ref x4), none], [], σ) (q.1, q.2.1, c9 + q.2.2) := Er.sT (c2 := (2, [some (.ref x0), some (.int x1), some (.int x2), some (.int x3), some (.ref x4), none], [.ref x4], σ)) r170_0 rfl rfl <| Er.sT (c2 := (3, [some (.ref x0), some (.int x1), some (.int x2), some (.int x3), some (.ref x4), none], [.int (0 : Int32), .ref x4], σ)) r170_2 rfl rfl <| Er.sT (c2 := (4, [some (.ref x0), some (.int x1), some (.int x2), some (.int x3), some (.ref x4), none], [.ref x0, .int (0 : Int32), .ref x4], σ)) r170_3 rfl rfl <| Er.sT (c2 := (5, [some (.ref x0), some (.int x1), some (.int x2), some (.int x3), some (.ref x4), none], [.int x1, .ref x0, .int (0 : Int32), .ref x4], σ)) r170_4 rfl rfl <| Er.sT (c2 := (6, [some (.ref x0), some (.int x1), some (.int x2), some (.int x3), some (.ref x4), none], [.int x2, .int x1, .ref x0, .int (0 : Int32), .ref x4], σ)) r170_5 rfl rfl <| Er.sT (c2 := (7, [some (.ref x0), some (.int x1), some (.int x2), some (.int x3), some (.ref x4), none], [.int x3, .int x2, .int x1, .ref x0, .int (0 : Int32), .ref x4], σ)) r170_6 rfl rfl <| (Er.callh (x := 3) (hp := 27) (vs := [.ref x0, .int x1, .int x2, .int x3]) (rest := [.int (0 : Int32), .ref x4]) r170_7 rfl rfl (Nat.le_of_ble_eq_true rfl) (Nat.le_of_ble_eq_true rfl) (fun _ => ⟨_, _, rfl, h1⟩) (by decide) rfl rfl rfl rfl hy k)
theorem b170_10 {d : Nat} {q : Rs} {x0 : Nat} {x1 : Int32} {x2 : Int32} {x3 : Int32} {x4 : Nat} {s0 : Nat} {s1 : Int32} {s2 : Int32} {σ : St} (h1 : isL s0 ∧ vp_in s1 (ale s0))
    (k : Er (d + 1) 170 (31, [some (.ref x0), some (.int x1), some (.int x2), some (.int x3), some (.ref x4), none], [], (sal σ s0 s1.toNatClampNeg (s2.toInt64))) q) :
    Er (d + 1) 170 (10, [some (.ref x0), some (.int x1), some (.int x2), some (.int x3), some (.ref x4), none], [.int s2, .int s1, .ref s0], σ) q := Er.sT (c2 := (11, [some (.ref x0), some (.int x1), some (.int x2), some (.int x3), some (.ref x4), none], [.long (s2.toInt64), .int s1, .ref s0], σ)) r170_10 rfl rfl <| Er.st (P := (isL s0 ∧ vp_in s1 (ale s0))) (c2 := (12, [some (.ref x0), some (.int x1), some (.int x2), some (.int x3), some (.ref x4), none], [], (sal σ s0 s1.toNatClampNeg (s2.toInt64)))) r170_11 rfl rfl h1 <| Er.sT (c2 := (31, [some (.ref x0), some (.int x1), some (.int x2), some (.int x3), some (.ref x4), none], [], (sal σ s0 s1.toNatClampNeg (s2.toInt64)))) r170_12 rfl rfl <| k
theorem b170_17 {d : Nat} {x0 : Nat} {x1 : Int32} {x2 : Int32} {x3 : Int32} {x4 : Nat} {σ : St}  :
    Er (d + 1) 170 (17, [some (.ref x0), some (.int x1), some (.int x2), some (.int x3), some (.ref x4), none], [], σ) (.inl (some (.int (1 : Int32))), σ, 0) := Er.sT (c2 := (18, [some (.ref x0), some (.int x1), some (.int x2), some (.int x3), some (.ref x4), none], [.int (1 : Int32)], σ)) r170_17 rfl rfl <| (Er.ret r170_18 rfl ⟨_, _, rfl, rfl, rfl, rfl⟩)
theorem b170_21 {d : Nat} {x0 : Nat} {x1 : Int32} {x2 : Int32} {x3 : Int32} {x4 : Nat} {σ : St}  :
    Er (d + 1) 170 (21, [some (.ref x0), some (.int x1), some (.int x2), some (.int x3), some (.ref x4), none], [], σ) (.inl (some (.int (2 : Int32))), σ, 0) := Er.sT (c2 := (22, [some (.ref x0), some (.int x1), some (.int x2), some (.int x3), some (.ref x4), none], [.int (2 : Int32)], σ)) r170_21 rfl rfl <| (Er.ret r170_22 rfl ⟨_, _, rfl, rfl, rfl, rfl⟩)
theorem b170_25 {d : Nat} {x0 : Nat} {x1 : Int32} {x2 : Int32} {x3 : Int32} {x4 : Nat} {σ : St}  :
    Er (d + 1) 170 (25, [some (.ref x0), some (.int x1), some (.int x2), some (.int x3), some (.ref x4), none], [], σ) (.inl (some (.int (3 : Int32))), σ, 0) := Er.sT (c2 := (26, [some (.ref x0), some (.int x1), some (.int x2), some (.int x3), some (.ref x4), none], [.int (3 : Int32)], σ)) r170_25 rfl rfl <| (Er.ret r170_26 rfl ⟨_, _, rfl, rfl, rfl, rfl⟩)
theorem b170_29 {d : Nat} {x0 : Nat} {x1 : Int32} {x2 : Int32} {x3 : Int32} {x4 : Nat} {σ : St}  :
    Er (d + 1) 170 (29, [some (.ref x0), some (.int x1), some (.int x2), some (.int x3), some (.ref x4), none], [], σ) (.inl (some (.int (4 : Int32))), σ, 0) := Er.sT (c2 := (30, [some (.ref x0), some (.int x1), some (.int x2), some (.int x3), some (.ref x4), none], [.int (4 : Int32)], σ)) r170_29 rfl rfl <| (Er.ret r170_30 rfl ⟨_, _, rfl, rfl, rfl, rfl⟩)
theorem b170_31 {d : Nat} {x0 : Nat} {x1 : Int32} {x2 : Int32} {x3 : Int32} {x4 : Nat} {σ : St}  :
    Er (d + 1) 170 (31, [some (.ref x0), some (.int x1), some (.int x2), some (.int x3), some (.ref x4), none], [], σ) (.inl (some (.int (0 : Int32))), σ, 0) := Er.sT (c2 := (32, [some (.ref x0), some (.int x1), some (.int x2), some (.int x3), some (.ref x4), none], [.int (0 : Int32)], σ)) r170_31 rfl rfl <| (Er.ret r170_32 rfl ⟨_, _, rfl, rfl, rfl, rfl⟩)
/-! NumberModelsLaw.word(LNumberModels;II[J)I -/
theorem tab_171 : tab 171 = tb171_0 := rfl
theorem ch171_0 {j : Nat} {r : Row} (h : tb171_0[j]? = some r) : rowAt 171 r.1 = some r := row_mem 171 (by decide) (by rw [tab_171]; exact List.mem_of_getElem? h)
theorem r171_0 : rowAt 171 0 = some (ra 0 1 (.aload_n 3) 3 0 0) := ch171_0 (j := 0) rfl
theorem r171_1 : rowAt 171 1 = some (r0 1 2 (.iconst 0)) := ch171_0 (j := 1) rfl
theorem r171_2 : rowAt 171 2 = some (r0 2 3 (.aload_n 0)) := ch171_0 (j := 2) rfl
theorem r171_3 : rowAt 171 3 = some (ra 3 4 (.iload_n 1) 1 0 0) := ch171_0 (j := 3) rfl
theorem r171_4 : rowAt 171 4 = some (ra 4 5 (.iload_n 2) 2 0 0) := ch171_0 (j := 4) rfl
theorem r171_5 : rowAt 171 5 = some (ra 5 8 (.invokevirtual 32) 62 3 684) := ch171_0 (j := 5) rfl
theorem r171_8 : rowAt 171 8 = some (r0 8 9 (.lastore)) := ch171_0 (j := 6) rfl
theorem r171_9 : rowAt 171 9 = some (ra 9 12 (.goto 7) 16 0 0) := ch171_0 (j := 7) rfl
theorem r171_14 : rowAt 171 14 = some (14, 15, .iconst 1, 0, 0, 0, 1, 0) := ch171_0 (j := 9) rfl
theorem r171_15 : rowAt 171 15 = some (r0 15 16 (.ireturn)) := ch171_0 (j := 10) rfl
theorem r171_16 : rowAt 171 16 = some (r0 16 17 (.iconst 0)) := ch171_0 (j := 11) rfl
theorem r171_17 : rowAt 171 17 = some (r0 17 18 (.ireturn)) := ch171_0 (j := 12) rfl
theorem b171_0 {d : Nat} {q : Rs} {x0 : Nat} {x1 : Int32} {x2 : Int32} {x3 : Nat} {σ : St} {σ2 : St} {r : Int64} (h1 : x0 < 24 ∧ kls x0 = 4)
    (hy : Er d 62 (0, ent 62 [.ref x0, .int x1, .int x2], [], σ) (.inl (some (.long r)), σ2, 0))
    (k : Er (d + 1) 171 (8, [some (.ref x0), some (.int x1), some (.int x2), some (.ref x3), none], [.long r, .int (0 : Int32), .ref x3], σ2) q) :
    Er (d + 1) 171 (0, [some (.ref x0), some (.int x1), some (.int x2), some (.ref x3), none], [], σ) q := Er.sT (c2 := (1, [some (.ref x0), some (.int x1), some (.int x2), some (.ref x3), none], [.ref x3], σ)) r171_0 rfl rfl <| Er.sT (c2 := (2, [some (.ref x0), some (.int x1), some (.int x2), some (.ref x3), none], [.int (0 : Int32), .ref x3], σ)) r171_1 rfl rfl <| Er.sT (c2 := (3, [some (.ref x0), some (.int x1), some (.int x2), some (.ref x3), none], [.ref x0, .int (0 : Int32), .ref x3], σ)) r171_2 rfl rfl <| Er.sT (c2 := (4, [some (.ref x0), some (.int x1), some (.int x2), some (.ref x3), none], [.int x1, .ref x0, .int (0 : Int32), .ref x3], σ)) r171_3 rfl rfl <| Er.sT (c2 := (5, [some (.ref x0), some (.int x1), some (.int x2), some (.ref x3), none], [.int x2, .int x1, .ref x0, .int (0 : Int32), .ref x3], σ)) r171_4 rfl rfl <| (Er.call (vs := [.ref x0, .int x1, .int x2]) (rest := [.int (0 : Int32), .ref x3]) r171_5 rfl rfl (Nat.le_of_ble_eq_true rfl) (Nat.le_of_ble_eq_true rfl) (fun _ => ⟨_, _, rfl, h1⟩) hy k)
theorem b171_0x0 {d c9 : Nat} {q : Rs} {x0 : Nat} {x1 : Int32} {x2 : Int32} {x3 : Nat} {σ : St} {σ2 : St} (h1 : x0 < 24 ∧ kls x0 = 4)
    (hy : Er d 62 (0, ent 62 [.ref x0, .int x1, .int x2], [], σ) (.inr 0, σ2, c9))
    (k : Er (d + 1) 171 (14, [some (.ref x0), some (.int x1), some (.int x2), some (.ref x3), none], [], σ2) q) :
    Er (d + 1) 171 (0, [some (.ref x0), some (.int x1), some (.int x2), some (.ref x3), none], [], σ) (q.1, q.2.1, c9 + q.2.2) := Er.sT (c2 := (1, [some (.ref x0), some (.int x1), some (.int x2), some (.ref x3), none], [.ref x3], σ)) r171_0 rfl rfl <| Er.sT (c2 := (2, [some (.ref x0), some (.int x1), some (.int x2), some (.ref x3), none], [.int (0 : Int32), .ref x3], σ)) r171_1 rfl rfl <| Er.sT (c2 := (3, [some (.ref x0), some (.int x1), some (.int x2), some (.ref x3), none], [.ref x0, .int (0 : Int32), .ref x3], σ)) r171_2 rfl rfl <| Er.sT (c2 := (4, [some (.ref x0), some (.int x1), some (.int x2), some (.ref x3), none], [.int x1, .ref x0, .int (0 : Int32), .ref x3], σ)) r171_3 rfl rfl <| Er.sT (c2 := (5, [some (.ref x0), some (.int x1), some (.int x2), some (.ref x3), none], [.int x2, .int x1, .ref x0, .int (0 : Int32), .ref x3], σ)) r171_4 rfl rfl <| (Er.callh (x := 0) (hp := 12) (vs := [.ref x0, .int x1, .int x2]) (rest := [.int (0 : Int32), .ref x3]) r171_5 rfl rfl (Nat.le_of_ble_eq_true rfl) (Nat.le_of_ble_eq_true rfl) (fun _ => ⟨_, _, rfl, h1⟩) (by decide) rfl rfl rfl rfl hy k)
theorem b171_8 {d : Nat} {q : Rs} {x0 : Nat} {x1 : Int32} {x2 : Int32} {x3 : Nat} {s0 : Nat} {s1 : Int32} {s2 : Int64} {σ : St} (h1 : isL s0 ∧ vp_in s1 (ale s0))
    (k : Er (d + 1) 171 (16, [some (.ref x0), some (.int x1), some (.int x2), some (.ref x3), none], [], (sal σ s0 s1.toNatClampNeg s2)) q) :
    Er (d + 1) 171 (8, [some (.ref x0), some (.int x1), some (.int x2), some (.ref x3), none], [.long s2, .int s1, .ref s0], σ) q := Er.st (P := (isL s0 ∧ vp_in s1 (ale s0))) (c2 := (9, [some (.ref x0), some (.int x1), some (.int x2), some (.ref x3), none], [], (sal σ s0 s1.toNatClampNeg s2))) r171_8 rfl rfl h1 <| Er.sT (c2 := (16, [some (.ref x0), some (.int x1), some (.int x2), some (.ref x3), none], [], (sal σ s0 s1.toNatClampNeg s2))) r171_9 rfl rfl <| k
theorem b171_14 {d : Nat} {x0 : Nat} {x1 : Int32} {x2 : Int32} {x3 : Nat} {σ : St}  :
    Er (d + 1) 171 (14, [some (.ref x0), some (.int x1), some (.int x2), some (.ref x3), none], [], σ) (.inl (some (.int (1 : Int32))), σ, 0) := Er.sT (c2 := (15, [some (.ref x0), some (.int x1), some (.int x2), some (.ref x3), none], [.int (1 : Int32)], σ)) r171_14 rfl rfl <| (Er.ret r171_15 rfl ⟨_, _, rfl, rfl, rfl, rfl⟩)
theorem b171_16 {d : Nat} {x0 : Nat} {x1 : Int32} {x2 : Int32} {x3 : Nat} {σ : St}  :
    Er (d + 1) 171 (16, [some (.ref x0), some (.int x1), some (.int x2), some (.ref x3), none], [], σ) (.inl (some (.int (0 : Int32))), σ, 0) := Er.sT (c2 := (17, [some (.ref x0), some (.int x1), some (.int x2), some (.ref x3), none], [.int (0 : Int32)], σ)) r171_16 rfl rfl <| (Er.ret r171_17 rfl ⟨_, _, rfl, rfl, rfl, rfl⟩)
/-! NumberModelsLaw.sign(LNumberModels;I[J)I -/
theorem tab_172 : tab 172 = tb172_0 := rfl
theorem ch172_0 {j : Nat} {r : Row} (h : tb172_0[j]? = some r) : rowAt 172 r.1 = some r := row_mem 172 (by decide) (by rw [tab_172]; exact List.mem_of_getElem? h)
theorem r172_0 : rowAt 172 0 = some (ra 0 1 (.aload_n 2) 2 0 0) := ch172_0 (j := 0) rfl
theorem r172_1 : rowAt 172 1 = some (r0 1 2 (.iconst 0)) := ch172_0 (j := 1) rfl
theorem r172_2 : rowAt 172 2 = some (r0 2 3 (.aload_n 0)) := ch172_0 (j := 2) rfl
theorem r172_3 : rowAt 172 3 = some (ra 3 4 (.iload_n 1) 1 0 0) := ch172_0 (j := 3) rfl
theorem r172_4 : rowAt 172 4 = some (ra 4 7 (.invokevirtual 36) 63 2 692) := ch172_0 (j := 4) rfl
theorem r172_7 : rowAt 172 7 = some (r0 7 8 (.i2l)) := ch172_0 (j := 5) rfl
theorem r172_8 : rowAt 172 8 = some (r0 8 9 (.lastore)) := ch172_0 (j := 6) rfl
theorem r172_9 : rowAt 172 9 = some (ra 9 12 (.goto 6) 15 0 0) := ch172_0 (j := 7) rfl
theorem r172_13 : rowAt 172 13 = some (13, 14, .iconst 1, 0, 0, 0, 1, 0) := ch172_0 (j := 9) rfl
theorem r172_14 : rowAt 172 14 = some (r0 14 15 (.ireturn)) := ch172_0 (j := 10) rfl
theorem r172_15 : rowAt 172 15 = some (r0 15 16 (.iconst 0)) := ch172_0 (j := 11) rfl
theorem r172_16 : rowAt 172 16 = some (r0 16 17 (.ireturn)) := ch172_0 (j := 12) rfl
theorem b172_0 {d : Nat} {q : Rs} {x0 : Nat} {x1 : Int32} {x2 : Nat} {σ : St} {σ2 : St} {r : Int32} (h1 : x0 < 24 ∧ kls x0 = 4)
    (hy : Er d 63 (0, ent 63 [.ref x0, .int x1], [], σ) (.inl (some (.int r)), σ2, 0))
    (k : Er (d + 1) 172 (7, [some (.ref x0), some (.int x1), some (.ref x2), none], [.int r, .int (0 : Int32), .ref x2], σ2) q) :
    Er (d + 1) 172 (0, [some (.ref x0), some (.int x1), some (.ref x2), none], [], σ) q := Er.sT (c2 := (1, [some (.ref x0), some (.int x1), some (.ref x2), none], [.ref x2], σ)) r172_0 rfl rfl <| Er.sT (c2 := (2, [some (.ref x0), some (.int x1), some (.ref x2), none], [.int (0 : Int32), .ref x2], σ)) r172_1 rfl rfl <| Er.sT (c2 := (3, [some (.ref x0), some (.int x1), some (.ref x2), none], [.ref x0, .int (0 : Int32), .ref x2], σ)) r172_2 rfl rfl <| Er.sT (c2 := (4, [some (.ref x0), some (.int x1), some (.ref x2), none], [.int x1, .ref x0, .int (0 : Int32), .ref x2], σ)) r172_3 rfl rfl <| (Er.call (vs := [.ref x0, .int x1]) (rest := [.int (0 : Int32), .ref x2]) r172_4 rfl rfl (Nat.le_of_ble_eq_true rfl) (Nat.le_of_ble_eq_true rfl) (fun _ => ⟨_, _, rfl, h1⟩) hy k)
theorem b172_0x0 {d c9 : Nat} {q : Rs} {x0 : Nat} {x1 : Int32} {x2 : Nat} {σ : St} {σ2 : St} (h1 : x0 < 24 ∧ kls x0 = 4)
    (hy : Er d 63 (0, ent 63 [.ref x0, .int x1], [], σ) (.inr 0, σ2, c9))
    (k : Er (d + 1) 172 (13, [some (.ref x0), some (.int x1), some (.ref x2), none], [], σ2) q) :
    Er (d + 1) 172 (0, [some (.ref x0), some (.int x1), some (.ref x2), none], [], σ) (q.1, q.2.1, c9 + q.2.2) := Er.sT (c2 := (1, [some (.ref x0), some (.int x1), some (.ref x2), none], [.ref x2], σ)) r172_0 rfl rfl <| Er.sT (c2 := (2, [some (.ref x0), some (.int x1), some (.ref x2), none], [.int (0 : Int32), .ref x2], σ)) r172_1 rfl rfl <| Er.sT (c2 := (3, [some (.ref x0), some (.int x1), some (.ref x2), none], [.ref x0, .int (0 : Int32), .ref x2], σ)) r172_2 rfl rfl <| Er.sT (c2 := (4, [some (.ref x0), some (.int x1), some (.ref x2), none], [.int x1, .ref x0, .int (0 : Int32), .ref x2], σ)) r172_3 rfl rfl <| (Er.callh (x := 0) (hp := 12) (vs := [.ref x0, .int x1]) (rest := [.int (0 : Int32), .ref x2]) r172_4 rfl rfl (Nat.le_of_ble_eq_true rfl) (Nat.le_of_ble_eq_true rfl) (fun _ => ⟨_, _, rfl, h1⟩) (by decide) rfl rfl rfl rfl hy k)
theorem b172_7 {d : Nat} {q : Rs} {x0 : Nat} {x1 : Int32} {x2 : Nat} {s0 : Nat} {s1 : Int32} {s2 : Int32} {σ : St} (h1 : isL s0 ∧ vp_in s1 (ale s0))
    (k : Er (d + 1) 172 (15, [some (.ref x0), some (.int x1), some (.ref x2), none], [], (sal σ s0 s1.toNatClampNeg (s2.toInt64))) q) :
    Er (d + 1) 172 (7, [some (.ref x0), some (.int x1), some (.ref x2), none], [.int s2, .int s1, .ref s0], σ) q := Er.sT (c2 := (8, [some (.ref x0), some (.int x1), some (.ref x2), none], [.long (s2.toInt64), .int s1, .ref s0], σ)) r172_7 rfl rfl <| Er.st (P := (isL s0 ∧ vp_in s1 (ale s0))) (c2 := (9, [some (.ref x0), some (.int x1), some (.ref x2), none], [], (sal σ s0 s1.toNatClampNeg (s2.toInt64)))) r172_8 rfl rfl h1 <| Er.sT (c2 := (15, [some (.ref x0), some (.int x1), some (.ref x2), none], [], (sal σ s0 s1.toNatClampNeg (s2.toInt64)))) r172_9 rfl rfl <| k
theorem b172_13 {d : Nat} {x0 : Nat} {x1 : Int32} {x2 : Nat} {σ : St}  :
    Er (d + 1) 172 (13, [some (.ref x0), some (.int x1), some (.ref x2), none], [], σ) (.inl (some (.int (1 : Int32))), σ, 0) := Er.sT (c2 := (14, [some (.ref x0), some (.int x1), some (.ref x2), none], [.int (1 : Int32)], σ)) r172_13 rfl rfl <| (Er.ret r172_14 rfl ⟨_, _, rfl, rfl, rfl, rfl⟩)
theorem b172_15 {d : Nat} {x0 : Nat} {x1 : Int32} {x2 : Nat} {σ : St}  :
    Er (d + 1) 172 (15, [some (.ref x0), some (.int x1), some (.ref x2), none], [], σ) (.inl (some (.int (0 : Int32))), σ, 0) := Er.sT (c2 := (16, [some (.ref x0), some (.int x1), some (.ref x2), none], [.int (0 : Int32)], σ)) r172_15 rfl rfl <| (Er.ret r172_16 rfl ⟨_, _, rfl, rfl, rfl, rfl⟩)
/-! NumberModelsLaw.bits(LNumberModels;IZ[J)I -/
theorem tab_173 : tab 173 = tb173_0 := rfl
theorem ch173_0 {j : Nat} {r : Row} (h : tb173_0[j]? = some r) : rowAt 173 r.1 = some r := row_mem 173 (by decide) (by rw [tab_173]; exact List.mem_of_getElem? h)
theorem r173_0 : rowAt 173 0 = some (ra 0 1 (.aload_n 3) 3 0 0) := ch173_0 (j := 0) rfl
theorem r173_1 : rowAt 173 1 = some (r0 1 2 (.iconst 0)) := ch173_0 (j := 1) rfl
theorem r173_2 : rowAt 173 2 = some (r0 2 3 (.aload_n 0)) := ch173_0 (j := 2) rfl
theorem r173_3 : rowAt 173 3 = some (ra 3 4 (.iload_n 1) 1 0 0) := ch173_0 (j := 3) rfl
theorem r173_4 : rowAt 173 4 = some (ra 4 5 (.iload_n 2) 2 0 0) := ch173_0 (j := 4) rfl
theorem r173_5 : rowAt 173 5 = some (ra 5 8 (.invokevirtual 40) 64 3 699) := ch173_0 (j := 5) rfl
theorem r173_8 : rowAt 173 8 = some (r0 8 9 (.i2l)) := ch173_0 (j := 6) rfl
theorem r173_9 : rowAt 173 9 = some (r0 9 10 (.lastore)) := ch173_0 (j := 7) rfl
theorem r173_10 : rowAt 173 10 = some (ra 10 13 (.goto 7) 17 0 0) := ch173_0 (j := 8) rfl
theorem r173_15 : rowAt 173 15 = some (15, 16, .iconst 1, 0, 0, 0, 1, 0) := ch173_0 (j := 10) rfl
theorem r173_16 : rowAt 173 16 = some (r0 16 17 (.ireturn)) := ch173_0 (j := 11) rfl
theorem r173_17 : rowAt 173 17 = some (r0 17 18 (.iconst 0)) := ch173_0 (j := 12) rfl
theorem r173_18 : rowAt 173 18 = some (r0 18 19 (.ireturn)) := ch173_0 (j := 13) rfl
theorem b173_0 {d : Nat} {q : Rs} {x0 : Nat} {x1 : Int32} {x2 : Int32} {x3 : Nat} {σ : St} {σ2 : St} {r : Int32} (h1 : x0 < 24 ∧ kls x0 = 4)
    (hy : Er d 64 (0, ent 64 [.ref x0, .int x1, .int x2], [], σ) (.inl (some (.int r)), σ2, 0))
    (k : Er (d + 1) 173 (8, [some (.ref x0), some (.int x1), some (.int x2), some (.ref x3), none], [.int r, .int (0 : Int32), .ref x3], σ2) q) :
    Er (d + 1) 173 (0, [some (.ref x0), some (.int x1), some (.int x2), some (.ref x3), none], [], σ) q := Er.sT (c2 := (1, [some (.ref x0), some (.int x1), some (.int x2), some (.ref x3), none], [.ref x3], σ)) r173_0 rfl rfl <| Er.sT (c2 := (2, [some (.ref x0), some (.int x1), some (.int x2), some (.ref x3), none], [.int (0 : Int32), .ref x3], σ)) r173_1 rfl rfl <| Er.sT (c2 := (3, [some (.ref x0), some (.int x1), some (.int x2), some (.ref x3), none], [.ref x0, .int (0 : Int32), .ref x3], σ)) r173_2 rfl rfl <| Er.sT (c2 := (4, [some (.ref x0), some (.int x1), some (.int x2), some (.ref x3), none], [.int x1, .ref x0, .int (0 : Int32), .ref x3], σ)) r173_3 rfl rfl <| Er.sT (c2 := (5, [some (.ref x0), some (.int x1), some (.int x2), some (.ref x3), none], [.int x2, .int x1, .ref x0, .int (0 : Int32), .ref x3], σ)) r173_4 rfl rfl <| (Er.call (vs := [.ref x0, .int x1, .int x2]) (rest := [.int (0 : Int32), .ref x3]) r173_5 rfl rfl (Nat.le_of_ble_eq_true rfl) (Nat.le_of_ble_eq_true rfl) (fun _ => ⟨_, _, rfl, h1⟩) hy k)
theorem b173_0x0 {d c9 : Nat} {q : Rs} {x0 : Nat} {x1 : Int32} {x2 : Int32} {x3 : Nat} {σ : St} {σ2 : St} (h1 : x0 < 24 ∧ kls x0 = 4)
    (hy : Er d 64 (0, ent 64 [.ref x0, .int x1, .int x2], [], σ) (.inr 0, σ2, c9))
    (k : Er (d + 1) 173 (15, [some (.ref x0), some (.int x1), some (.int x2), some (.ref x3), none], [], σ2) q) :
    Er (d + 1) 173 (0, [some (.ref x0), some (.int x1), some (.int x2), some (.ref x3), none], [], σ) (q.1, q.2.1, c9 + q.2.2) := Er.sT (c2 := (1, [some (.ref x0), some (.int x1), some (.int x2), some (.ref x3), none], [.ref x3], σ)) r173_0 rfl rfl <| Er.sT (c2 := (2, [some (.ref x0), some (.int x1), some (.int x2), some (.ref x3), none], [.int (0 : Int32), .ref x3], σ)) r173_1 rfl rfl <| Er.sT (c2 := (3, [some (.ref x0), some (.int x1), some (.int x2), some (.ref x3), none], [.ref x0, .int (0 : Int32), .ref x3], σ)) r173_2 rfl rfl <| Er.sT (c2 := (4, [some (.ref x0), some (.int x1), some (.int x2), some (.ref x3), none], [.int x1, .ref x0, .int (0 : Int32), .ref x3], σ)) r173_3 rfl rfl <| Er.sT (c2 := (5, [some (.ref x0), some (.int x1), some (.int x2), some (.ref x3), none], [.int x2, .int x1, .ref x0, .int (0 : Int32), .ref x3], σ)) r173_4 rfl rfl <| (Er.callh (x := 0) (hp := 13) (vs := [.ref x0, .int x1, .int x2]) (rest := [.int (0 : Int32), .ref x3]) r173_5 rfl rfl (Nat.le_of_ble_eq_true rfl) (Nat.le_of_ble_eq_true rfl) (fun _ => ⟨_, _, rfl, h1⟩) (by decide) rfl rfl rfl rfl hy k)
theorem b173_8 {d : Nat} {q : Rs} {x0 : Nat} {x1 : Int32} {x2 : Int32} {x3 : Nat} {s0 : Nat} {s1 : Int32} {s2 : Int32} {σ : St} (h1 : isL s0 ∧ vp_in s1 (ale s0))
    (k : Er (d + 1) 173 (17, [some (.ref x0), some (.int x1), some (.int x2), some (.ref x3), none], [], (sal σ s0 s1.toNatClampNeg (s2.toInt64))) q) :
    Er (d + 1) 173 (8, [some (.ref x0), some (.int x1), some (.int x2), some (.ref x3), none], [.int s2, .int s1, .ref s0], σ) q := Er.sT (c2 := (9, [some (.ref x0), some (.int x1), some (.int x2), some (.ref x3), none], [.long (s2.toInt64), .int s1, .ref s0], σ)) r173_8 rfl rfl <| Er.st (P := (isL s0 ∧ vp_in s1 (ale s0))) (c2 := (10, [some (.ref x0), some (.int x1), some (.int x2), some (.ref x3), none], [], (sal σ s0 s1.toNatClampNeg (s2.toInt64)))) r173_9 rfl rfl h1 <| Er.sT (c2 := (17, [some (.ref x0), some (.int x1), some (.int x2), some (.ref x3), none], [], (sal σ s0 s1.toNatClampNeg (s2.toInt64)))) r173_10 rfl rfl <| k
theorem b173_15 {d : Nat} {x0 : Nat} {x1 : Int32} {x2 : Int32} {x3 : Nat} {σ : St}  :
    Er (d + 1) 173 (15, [some (.ref x0), some (.int x1), some (.int x2), some (.ref x3), none], [], σ) (.inl (some (.int (1 : Int32))), σ, 0) := Er.sT (c2 := (16, [some (.ref x0), some (.int x1), some (.int x2), some (.ref x3), none], [.int (1 : Int32)], σ)) r173_15 rfl rfl <| (Er.ret r173_16 rfl ⟨_, _, rfl, rfl, rfl, rfl⟩)
theorem b173_17 {d : Nat} {x0 : Nat} {x1 : Int32} {x2 : Int32} {x3 : Nat} {σ : St}  :
    Er (d + 1) 173 (17, [some (.ref x0), some (.int x1), some (.int x2), some (.ref x3), none], [], σ) (.inl (some (.int (0 : Int32))), σ, 0) := Er.sT (c2 := (18, [some (.ref x0), some (.int x1), some (.int x2), some (.ref x3), none], [.int (0 : Int32)], σ)) r173_17 rfl rfl <| (Er.ret r173_18 rfl ⟨_, _, rfl, rfl, rfl, rfl⟩)
/-! NumberModelsLaw.wrap(LNumberModels;IIZ[J)I -/
theorem tab_174 : tab 174 = tb174_0 := rfl
theorem ch174_0 {j : Nat} {r : Row} (h : tb174_0[j]? = some r) : rowAt 174 r.1 = some r := row_mem 174 (by decide) (by rw [tab_174]; exact List.mem_of_getElem? h)
theorem r174_0 : rowAt 174 0 = some (ra 0 2 (.aload 4) 4 0 0) := ch174_0 (j := 0) rfl
theorem r174_2 : rowAt 174 2 = some (r0 2 3 (.iconst 0)) := ch174_0 (j := 1) rfl
theorem r174_3 : rowAt 174 3 = some (r0 3 4 (.aload_n 0)) := ch174_0 (j := 2) rfl
theorem r174_4 : rowAt 174 4 = some (ra 4 5 (.iload_n 1) 1 0 0) := ch174_0 (j := 3) rfl
theorem r174_5 : rowAt 174 5 = some (ra 5 6 (.iload_n 2) 2 0 0) := ch174_0 (j := 4) rfl
theorem r174_6 : rowAt 174 6 = some (ra 6 7 (.iload_n 3) 3 0 0) := ch174_0 (j := 5) rfl
theorem r174_7 : rowAt 174 7 = some (ra 7 10 (.invokevirtual 44) 65 4 706) := ch174_0 (j := 6) rfl
theorem r174_10 : rowAt 174 10 = some (r0 10 11 (.lastore)) := ch174_0 (j := 7) rfl
theorem r174_11 : rowAt 174 11 = some (ra 11 14 (.goto 11) 22 0 0) := ch174_0 (j := 8) rfl
theorem r174_16 : rowAt 174 16 = some (16, 17, .iconst 1, 0, 0, 0, 1, 0) := ch174_0 (j := 10) rfl
theorem r174_17 : rowAt 174 17 = some (r0 17 18 (.ireturn)) := ch174_0 (j := 11) rfl
theorem r174_20 : rowAt 174 20 = some (20, 21, .iconst 2, 0, 0, 0, 2, 0) := ch174_0 (j := 13) rfl
theorem r174_21 : rowAt 174 21 = some (r0 21 22 (.ireturn)) := ch174_0 (j := 14) rfl
theorem r174_22 : rowAt 174 22 = some (r0 22 23 (.iconst 0)) := ch174_0 (j := 15) rfl
theorem r174_23 : rowAt 174 23 = some (r0 23 24 (.ireturn)) := ch174_0 (j := 16) rfl
theorem b174_0 {d : Nat} {q : Rs} {x0 : Nat} {x1 : Int32} {x2 : Int32} {x3 : Int32} {x4 : Nat} {σ : St} {σ2 : St} {r : Int64} (h1 : x0 < 24 ∧ kls x0 = 4)
    (hy : Er d 65 (0, ent 65 [.ref x0, .int x1, .int x2, .int x3], [], σ) (.inl (some (.long r)), σ2, 0))
    (k : Er (d + 1) 174 (10, [some (.ref x0), some (.int x1), some (.int x2), some (.int x3), some (.ref x4), none], [.long r, .int (0 : Int32), .ref x4], σ2) q) :
    Er (d + 1) 174 (0, [some (.ref x0), some (.int x1), some (.int x2), some (.int x3), some (.ref x4), none], [], σ) q := Er.sT (c2 := (2, [some (.ref x0), some (.int x1), some (.int x2), some (.int x3), some (.ref x4), none], [.ref x4], σ)) r174_0 rfl rfl <| Er.sT (c2 := (3, [some (.ref x0), some (.int x1), some (.int x2), some (.int x3), some (.ref x4), none], [.int (0 : Int32), .ref x4], σ)) r174_2 rfl rfl <| Er.sT (c2 := (4, [some (.ref x0), some (.int x1), some (.int x2), some (.int x3), some (.ref x4), none], [.ref x0, .int (0 : Int32), .ref x4], σ)) r174_3 rfl rfl <| Er.sT (c2 := (5, [some (.ref x0), some (.int x1), some (.int x2), some (.int x3), some (.ref x4), none], [.int x1, .ref x0, .int (0 : Int32), .ref x4], σ)) r174_4 rfl rfl <| Er.sT (c2 := (6, [some (.ref x0), some (.int x1), some (.int x2), some (.int x3), some (.ref x4), none], [.int x2, .int x1, .ref x0, .int (0 : Int32), .ref x4], σ)) r174_5 rfl rfl <| Er.sT (c2 := (7, [some (.ref x0), some (.int x1), some (.int x2), some (.int x3), some (.ref x4), none], [.int x3, .int x2, .int x1, .ref x0, .int (0 : Int32), .ref x4], σ)) r174_6 rfl rfl <| (Er.call (vs := [.ref x0, .int x1, .int x2, .int x3]) (rest := [.int (0 : Int32), .ref x4]) r174_7 rfl rfl (Nat.le_of_ble_eq_true rfl) (Nat.le_of_ble_eq_true rfl) (fun _ => ⟨_, _, rfl, h1⟩) hy k)
theorem b174_0x0 {d c9 : Nat} {q : Rs} {x0 : Nat} {x1 : Int32} {x2 : Int32} {x3 : Int32} {x4 : Nat} {σ : St} {σ2 : St} (h1 : x0 < 24 ∧ kls x0 = 4)
    (hy : Er d 65 (0, ent 65 [.ref x0, .int x1, .int x2, .int x3], [], σ) (.inr 0, σ2, c9))
    (k : Er (d + 1) 174 (16, [some (.ref x0), some (.int x1), some (.int x2), some (.int x3), some (.ref x4), none], [], σ2) q) :
    Er (d + 1) 174 (0, [some (.ref x0), some (.int x1), some (.int x2), some (.int x3), some (.ref x4), none], [], σ) (q.1, q.2.1, c9 + q.2.2) := Er.sT (c2 := (2, [some (.ref x0), some (.int x1), some (.int x2), some (.int x3), some (.ref x4), none], [.ref x4], σ)) r174_0 rfl rfl <| Er.sT (c2 := (3, [some (.ref x0), some (.int x1), some (.int x2), some (.int x3), some (.ref x4), none], [.int (0 : Int32), .ref x4], σ)) r174_2 rfl rfl <| Er.sT (c2 := (4, [some (.ref x0), some (.int x1), some (.int x2), some (.int x3), some (.ref x4), none], [.ref x0, .int (0 : Int32), .ref x4], σ)) r174_3 rfl rfl <| Er.sT (c2 := (5, [some (.ref x0), some (.int x1), some (.int x2), some (.int x3), some (.ref x4), none], [.int x1, .ref x0, .int (0 : Int32), .ref x4], σ)) r174_4 rfl rfl <| Er.sT (c2 := (6, [some (.ref x0), some (.int x1), some (.int x2), some (.int x3), some (.ref x4), none], [.int x2, .int x1, .ref x0, .int (0 : Int32), .ref x4], σ)) r174_5 rfl rfl <| Er.sT (c2 := (7, [some (.ref x0), some (.int x1), some (.int x2), some (.int x3), some (.ref x4), none], [.int x3, .int x2, .int x1, .ref x0, .int (0 : Int32), .ref x4], σ)) r174_6 rfl rfl <| (Er.callh (x := 0) (hp := 14) (vs := [.ref x0, .int x1, .int x2, .int x3]) (rest := [.int (0 : Int32), .ref x4]) r174_7 rfl rfl (Nat.le_of_ble_eq_true rfl) (Nat.le_of_ble_eq_true rfl) (fun _ => ⟨_, _, rfl, h1⟩) (by decide) rfl rfl rfl rfl hy k)
theorem b174_0x1 {d c9 : Nat} {q : Rs} {x0 : Nat} {x1 : Int32} {x2 : Int32} {x3 : Int32} {x4 : Nat} {σ : St} {σ2 : St} (h1 : x0 < 24 ∧ kls x0 = 4)
    (hy : Er d 65 (0, ent 65 [.ref x0, .int x1, .int x2, .int x3], [], σ) (.inr 1, σ2, c9))
    (k : Er (d + 1) 174 (20, [some (.ref x0), some (.int x1), some (.int x2), some (.int x3), some (.ref x4), none], [], σ2) q) :
    Er (d + 1) 174 (0, [some (.ref x0), some (.int x1), some (.int x2), some (.int x3), some (.ref x4), none], [], σ) (q.1, q.2.1, c9 + q.2.2) := Er.sT (c2 := (2, [some (.ref x0), some (.int x1), some (.int x2), some (.int x3), some (.ref x4), none], [.ref x4], σ)) r174_0 rfl rfl <| Er.sT (c2 := (3, [some (.ref x0), some (.int x1), some (.int x2), some (.int x3), some (.ref x4), none], [.int (0 : Int32), .ref x4], σ)) r174_2 rfl rfl <| Er.sT (c2 := (4, [some (.ref x0), some (.int x1), some (.int x2), some (.int x3), some (.ref x4), none], [.ref x0, .int (0 : Int32), .ref x4], σ)) r174_3 rfl rfl <| Er.sT (c2 := (5, [some (.ref x0), some (.int x1), some (.int x2), some (.int x3), some (.ref x4), none], [.int x1, .ref x0, .int (0 : Int32), .ref x4], σ)) r174_4 rfl rfl <| Er.sT (c2 := (6, [some (.ref x0), some (.int x1), some (.int x2), some (.int x3), some (.ref x4), none], [.int x2, .int x1, .ref x0, .int (0 : Int32), .ref x4], σ)) r174_5 rfl rfl <| Er.sT (c2 := (7, [some (.ref x0), some (.int x1), some (.int x2), some (.int x3), some (.ref x4), none], [.int x3, .int x2, .int x1, .ref x0, .int (0 : Int32), .ref x4], σ)) r174_6 rfl rfl <| (Er.callh (x := 1) (hp := 18) (vs := [.ref x0, .int x1, .int x2, .int x3]) (rest := [.int (0 : Int32), .ref x4]) r174_7 rfl rfl (Nat.le_of_ble_eq_true rfl) (Nat.le_of_ble_eq_true rfl) (fun _ => ⟨_, _, rfl, h1⟩) (by decide) rfl rfl rfl rfl hy k)
theorem b174_10 {d : Nat} {q : Rs} {x0 : Nat} {x1 : Int32} {x2 : Int32} {x3 : Int32} {x4 : Nat} {s0 : Nat} {s1 : Int32} {s2 : Int64} {σ : St} (h1 : isL s0 ∧ vp_in s1 (ale s0))
    (k : Er (d + 1) 174 (22, [some (.ref x0), some (.int x1), some (.int x2), some (.int x3), some (.ref x4), none], [], (sal σ s0 s1.toNatClampNeg s2)) q) :
    Er (d + 1) 174 (10, [some (.ref x0), some (.int x1), some (.int x2), some (.int x3), some (.ref x4), none], [.long s2, .int s1, .ref s0], σ) q := Er.st (P := (isL s0 ∧ vp_in s1 (ale s0))) (c2 := (11, [some (.ref x0), some (.int x1), some (.int x2), some (.int x3), some (.ref x4), none], [], (sal σ s0 s1.toNatClampNeg s2))) r174_10 rfl rfl h1 <| Er.sT (c2 := (22, [some (.ref x0), some (.int x1), some (.int x2), some (.int x3), some (.ref x4), none], [], (sal σ s0 s1.toNatClampNeg s2))) r174_11 rfl rfl <| k
theorem b174_16 {d : Nat} {x0 : Nat} {x1 : Int32} {x2 : Int32} {x3 : Int32} {x4 : Nat} {σ : St}  :
    Er (d + 1) 174 (16, [some (.ref x0), some (.int x1), some (.int x2), some (.int x3), some (.ref x4), none], [], σ) (.inl (some (.int (1 : Int32))), σ, 0) := Er.sT (c2 := (17, [some (.ref x0), some (.int x1), some (.int x2), some (.int x3), some (.ref x4), none], [.int (1 : Int32)], σ)) r174_16 rfl rfl <| (Er.ret r174_17 rfl ⟨_, _, rfl, rfl, rfl, rfl⟩)
theorem b174_20 {d : Nat} {x0 : Nat} {x1 : Int32} {x2 : Int32} {x3 : Int32} {x4 : Nat} {σ : St}  :
    Er (d + 1) 174 (20, [some (.ref x0), some (.int x1), some (.int x2), some (.int x3), some (.ref x4), none], [], σ) (.inl (some (.int (2 : Int32))), σ, 0) := Er.sT (c2 := (21, [some (.ref x0), some (.int x1), some (.int x2), some (.int x3), some (.ref x4), none], [.int (2 : Int32)], σ)) r174_20 rfl rfl <| (Er.ret r174_21 rfl ⟨_, _, rfl, rfl, rfl, rfl⟩)
theorem b174_22 {d : Nat} {x0 : Nat} {x1 : Int32} {x2 : Int32} {x3 : Int32} {x4 : Nat} {σ : St}  :
    Er (d + 1) 174 (22, [some (.ref x0), some (.int x1), some (.int x2), some (.int x3), some (.ref x4), none], [], σ) (.inl (some (.int (0 : Int32))), σ, 0) := Er.sT (c2 := (23, [some (.ref x0), some (.int x1), some (.int x2), some (.int x3), some (.ref x4), none], [.int (0 : Int32)], σ)) r174_22 rfl rfl <| (Er.ret r174_23 rfl ⟨_, _, rfl, rfl, rfl, rfl⟩)
/-! NumberModelsLaw.order(LNumberModels;II[J)I -/
theorem tab_175 : tab 175 = tb175_0 := rfl
theorem ch175_0 {j : Nat} {r : Row} (h : tb175_0[j]? = some r) : rowAt 175 r.1 = some r := row_mem 175 (by decide) (by rw [tab_175]; exact List.mem_of_getElem? h)
theorem r175_0 : rowAt 175 0 = some (ra 0 1 (.aload_n 3) 3 0 0) := ch175_0 (j := 0) rfl
theorem r175_1 : rowAt 175 1 = some (r0 1 2 (.iconst 0)) := ch175_0 (j := 1) rfl
theorem r175_2 : rowAt 175 2 = some (r0 2 3 (.aload_n 0)) := ch175_0 (j := 2) rfl
theorem r175_3 : rowAt 175 3 = some (ra 3 4 (.iload_n 1) 1 0 0) := ch175_0 (j := 3) rfl
theorem r175_4 : rowAt 175 4 = some (ra 4 5 (.iload_n 2) 2 0 0) := ch175_0 (j := 4) rfl
theorem r175_5 : rowAt 175 5 = some (ra 5 8 (.invokevirtual 48) 66 3 714) := ch175_0 (j := 5) rfl
theorem r175_8 : rowAt 175 8 = some (r0 8 9 (.i2l)) := ch175_0 (j := 6) rfl
theorem r175_9 : rowAt 175 9 = some (r0 9 10 (.lastore)) := ch175_0 (j := 7) rfl
theorem r175_10 : rowAt 175 10 = some (ra 10 13 (.goto 7) 17 0 0) := ch175_0 (j := 8) rfl
theorem r175_15 : rowAt 175 15 = some (15, 16, .iconst 1, 0, 0, 0, 1, 0) := ch175_0 (j := 10) rfl
theorem r175_16 : rowAt 175 16 = some (r0 16 17 (.ireturn)) := ch175_0 (j := 11) rfl
theorem r175_17 : rowAt 175 17 = some (r0 17 18 (.iconst 0)) := ch175_0 (j := 12) rfl
theorem r175_18 : rowAt 175 18 = some (r0 18 19 (.ireturn)) := ch175_0 (j := 13) rfl
theorem b175_0 {d : Nat} {q : Rs} {x0 : Nat} {x1 : Int32} {x2 : Int32} {x3 : Nat} {σ : St} {σ2 : St} {r : Int32} (h1 : x0 < 24 ∧ kls x0 = 4)
    (hy : Er d 66 (0, ent 66 [.ref x0, .int x1, .int x2], [], σ) (.inl (some (.int r)), σ2, 0))
    (k : Er (d + 1) 175 (8, [some (.ref x0), some (.int x1), some (.int x2), some (.ref x3), none], [.int r, .int (0 : Int32), .ref x3], σ2) q) :
    Er (d + 1) 175 (0, [some (.ref x0), some (.int x1), some (.int x2), some (.ref x3), none], [], σ) q := Er.sT (c2 := (1, [some (.ref x0), some (.int x1), some (.int x2), some (.ref x3), none], [.ref x3], σ)) r175_0 rfl rfl <| Er.sT (c2 := (2, [some (.ref x0), some (.int x1), some (.int x2), some (.ref x3), none], [.int (0 : Int32), .ref x3], σ)) r175_1 rfl rfl <| Er.sT (c2 := (3, [some (.ref x0), some (.int x1), some (.int x2), some (.ref x3), none], [.ref x0, .int (0 : Int32), .ref x3], σ)) r175_2 rfl rfl <| Er.sT (c2 := (4, [some (.ref x0), some (.int x1), some (.int x2), some (.ref x3), none], [.int x1, .ref x0, .int (0 : Int32), .ref x3], σ)) r175_3 rfl rfl <| Er.sT (c2 := (5, [some (.ref x0), some (.int x1), some (.int x2), some (.ref x3), none], [.int x2, .int x1, .ref x0, .int (0 : Int32), .ref x3], σ)) r175_4 rfl rfl <| (Er.call (vs := [.ref x0, .int x1, .int x2]) (rest := [.int (0 : Int32), .ref x3]) r175_5 rfl rfl (Nat.le_of_ble_eq_true rfl) (Nat.le_of_ble_eq_true rfl) (fun _ => ⟨_, _, rfl, h1⟩) hy k)
theorem b175_0x0 {d c9 : Nat} {q : Rs} {x0 : Nat} {x1 : Int32} {x2 : Int32} {x3 : Nat} {σ : St} {σ2 : St} (h1 : x0 < 24 ∧ kls x0 = 4)
    (hy : Er d 66 (0, ent 66 [.ref x0, .int x1, .int x2], [], σ) (.inr 0, σ2, c9))
    (k : Er (d + 1) 175 (15, [some (.ref x0), some (.int x1), some (.int x2), some (.ref x3), none], [], σ2) q) :
    Er (d + 1) 175 (0, [some (.ref x0), some (.int x1), some (.int x2), some (.ref x3), none], [], σ) (q.1, q.2.1, c9 + q.2.2) := Er.sT (c2 := (1, [some (.ref x0), some (.int x1), some (.int x2), some (.ref x3), none], [.ref x3], σ)) r175_0 rfl rfl <| Er.sT (c2 := (2, [some (.ref x0), some (.int x1), some (.int x2), some (.ref x3), none], [.int (0 : Int32), .ref x3], σ)) r175_1 rfl rfl <| Er.sT (c2 := (3, [some (.ref x0), some (.int x1), some (.int x2), some (.ref x3), none], [.ref x0, .int (0 : Int32), .ref x3], σ)) r175_2 rfl rfl <| Er.sT (c2 := (4, [some (.ref x0), some (.int x1), some (.int x2), some (.ref x3), none], [.int x1, .ref x0, .int (0 : Int32), .ref x3], σ)) r175_3 rfl rfl <| Er.sT (c2 := (5, [some (.ref x0), some (.int x1), some (.int x2), some (.ref x3), none], [.int x2, .int x1, .ref x0, .int (0 : Int32), .ref x3], σ)) r175_4 rfl rfl <| (Er.callh (x := 0) (hp := 13) (vs := [.ref x0, .int x1, .int x2]) (rest := [.int (0 : Int32), .ref x3]) r175_5 rfl rfl (Nat.le_of_ble_eq_true rfl) (Nat.le_of_ble_eq_true rfl) (fun _ => ⟨_, _, rfl, h1⟩) (by decide) rfl rfl rfl rfl hy k)
theorem b175_8 {d : Nat} {q : Rs} {x0 : Nat} {x1 : Int32} {x2 : Int32} {x3 : Nat} {s0 : Nat} {s1 : Int32} {s2 : Int32} {σ : St} (h1 : isL s0 ∧ vp_in s1 (ale s0))
    (k : Er (d + 1) 175 (17, [some (.ref x0), some (.int x1), some (.int x2), some (.ref x3), none], [], (sal σ s0 s1.toNatClampNeg (s2.toInt64))) q) :
    Er (d + 1) 175 (8, [some (.ref x0), some (.int x1), some (.int x2), some (.ref x3), none], [.int s2, .int s1, .ref s0], σ) q := Er.sT (c2 := (9, [some (.ref x0), some (.int x1), some (.int x2), some (.ref x3), none], [.long (s2.toInt64), .int s1, .ref s0], σ)) r175_8 rfl rfl <| Er.st (P := (isL s0 ∧ vp_in s1 (ale s0))) (c2 := (10, [some (.ref x0), some (.int x1), some (.int x2), some (.ref x3), none], [], (sal σ s0 s1.toNatClampNeg (s2.toInt64)))) r175_9 rfl rfl h1 <| Er.sT (c2 := (17, [some (.ref x0), some (.int x1), some (.int x2), some (.ref x3), none], [], (sal σ s0 s1.toNatClampNeg (s2.toInt64)))) r175_10 rfl rfl <| k
theorem b175_15 {d : Nat} {x0 : Nat} {x1 : Int32} {x2 : Int32} {x3 : Nat} {σ : St}  :
    Er (d + 1) 175 (15, [some (.ref x0), some (.int x1), some (.int x2), some (.ref x3), none], [], σ) (.inl (some (.int (1 : Int32))), σ, 0) := Er.sT (c2 := (16, [some (.ref x0), some (.int x1), some (.int x2), some (.ref x3), none], [.int (1 : Int32)], σ)) r175_15 rfl rfl <| (Er.ret r175_16 rfl ⟨_, _, rfl, rfl, rfl, rfl⟩)
theorem b175_17 {d : Nat} {x0 : Nat} {x1 : Int32} {x2 : Int32} {x3 : Nat} {σ : St}  :
    Er (d + 1) 175 (17, [some (.ref x0), some (.int x1), some (.int x2), some (.ref x3), none], [], σ) (.inl (some (.int (0 : Int32))), σ, 0) := Er.sT (c2 := (18, [some (.ref x0), some (.int x1), some (.int x2), some (.ref x3), none], [.int (0 : Int32)], σ)) r175_17 rfl rfl <| (Er.ret r175_18 rfl ⟨_, _, rfl, rfl, rfl, rfl⟩)
/-! NumberModelsLaw.meets(LNumberModels;IJ[J)I -/
theorem tab_176 : tab 176 = tb176_0 := rfl
theorem ch176_0 {j : Nat} {r : Row} (h : tb176_0[j]? = some r) : rowAt 176 r.1 = some r := row_mem 176 (by decide) (by rw [tab_176]; exact List.mem_of_getElem? h)
theorem r176_0 : rowAt 176 0 = some (ra 0 2 (.aload 4) 4 0 0) := ch176_0 (j := 0) rfl
theorem r176_2 : rowAt 176 2 = some (r0 2 3 (.iconst 0)) := ch176_0 (j := 1) rfl
theorem r176_3 : rowAt 176 3 = some (r0 3 4 (.aload_n 0)) := ch176_0 (j := 2) rfl
theorem r176_4 : rowAt 176 4 = some (ra 4 5 (.iload_n 1) 1 0 0) := ch176_0 (j := 3) rfl
theorem r176_5 : rowAt 176 5 = some (ra 5 6 (.lload_n 2) 2 0 0) := ch176_0 (j := 4) rfl
theorem r176_6 : rowAt 176 6 = some (ra 6 9 (.invokevirtual 52) 67 3 721) := ch176_0 (j := 5) rfl
theorem r176_9 : rowAt 176 9 = some (r0 9 10 (.i2l)) := ch176_0 (j := 6) rfl
theorem r176_10 : rowAt 176 10 = some (r0 10 11 (.lastore)) := ch176_0 (j := 7) rfl
theorem r176_11 : rowAt 176 11 = some (ra 11 14 (.goto 7) 18 0 0) := ch176_0 (j := 8) rfl
theorem r176_16 : rowAt 176 16 = some (16, 17, .iconst 1, 0, 0, 0, 1, 0) := ch176_0 (j := 10) rfl
theorem r176_17 : rowAt 176 17 = some (r0 17 18 (.ireturn)) := ch176_0 (j := 11) rfl
theorem r176_18 : rowAt 176 18 = some (r0 18 19 (.iconst 0)) := ch176_0 (j := 12) rfl
theorem r176_19 : rowAt 176 19 = some (r0 19 20 (.ireturn)) := ch176_0 (j := 13) rfl
theorem b176_0 {d : Nat} {q : Rs} {x0 : Nat} {x1 : Int32} {x2 : Int64} {x4 : Nat} {σ : St} {σ2 : St} {r : Int32} (h1 : x0 < 24 ∧ kls x0 = 4)
    (hy : Er d 67 (0, ent 67 [.ref x0, .int x1, .long x2], [], σ) (.inl (some (.int r)), σ2, 0))
    (k : Er (d + 1) 176 (9, [some (.ref x0), some (.int x1), some (.long x2), none, some (.ref x4), none], [.int r, .int (0 : Int32), .ref x4], σ2) q) :
    Er (d + 1) 176 (0, [some (.ref x0), some (.int x1), some (.long x2), none, some (.ref x4), none], [], σ) q := Er.sT (c2 := (2, [some (.ref x0), some (.int x1), some (.long x2), none, some (.ref x4), none], [.ref x4], σ)) r176_0 rfl rfl <| Er.sT (c2 := (3, [some (.ref x0), some (.int x1), some (.long x2), none, some (.ref x4), none], [.int (0 : Int32), .ref x4], σ)) r176_2 rfl rfl <| Er.sT (c2 := (4, [some (.ref x0), some (.int x1), some (.long x2), none, some (.ref x4), none], [.ref x0, .int (0 : Int32), .ref x4], σ)) r176_3 rfl rfl <| Er.sT (c2 := (5, [some (.ref x0), some (.int x1), some (.long x2), none, some (.ref x4), none], [.int x1, .ref x0, .int (0 : Int32), .ref x4], σ)) r176_4 rfl rfl <| Er.sT (c2 := (6, [some (.ref x0), some (.int x1), some (.long x2), none, some (.ref x4), none], [.long x2, .int x1, .ref x0, .int (0 : Int32), .ref x4], σ)) r176_5 rfl rfl <| (Er.call (vs := [.ref x0, .int x1, .long x2]) (rest := [.int (0 : Int32), .ref x4]) r176_6 rfl rfl (Nat.le_of_ble_eq_true rfl) (Nat.le_of_ble_eq_true rfl) (fun _ => ⟨_, _, rfl, h1⟩) hy k)
theorem b176_0x0 {d c9 : Nat} {q : Rs} {x0 : Nat} {x1 : Int32} {x2 : Int64} {x4 : Nat} {σ : St} {σ2 : St} (h1 : x0 < 24 ∧ kls x0 = 4)
    (hy : Er d 67 (0, ent 67 [.ref x0, .int x1, .long x2], [], σ) (.inr 0, σ2, c9))
    (k : Er (d + 1) 176 (16, [some (.ref x0), some (.int x1), some (.long x2), none, some (.ref x4), none], [], σ2) q) :
    Er (d + 1) 176 (0, [some (.ref x0), some (.int x1), some (.long x2), none, some (.ref x4), none], [], σ) (q.1, q.2.1, c9 + q.2.2) := Er.sT (c2 := (2, [some (.ref x0), some (.int x1), some (.long x2), none, some (.ref x4), none], [.ref x4], σ)) r176_0 rfl rfl <| Er.sT (c2 := (3, [some (.ref x0), some (.int x1), some (.long x2), none, some (.ref x4), none], [.int (0 : Int32), .ref x4], σ)) r176_2 rfl rfl <| Er.sT (c2 := (4, [some (.ref x0), some (.int x1), some (.long x2), none, some (.ref x4), none], [.ref x0, .int (0 : Int32), .ref x4], σ)) r176_3 rfl rfl <| Er.sT (c2 := (5, [some (.ref x0), some (.int x1), some (.long x2), none, some (.ref x4), none], [.int x1, .ref x0, .int (0 : Int32), .ref x4], σ)) r176_4 rfl rfl <| Er.sT (c2 := (6, [some (.ref x0), some (.int x1), some (.long x2), none, some (.ref x4), none], [.long x2, .int x1, .ref x0, .int (0 : Int32), .ref x4], σ)) r176_5 rfl rfl <| (Er.callh (x := 0) (hp := 14) (vs := [.ref x0, .int x1, .long x2]) (rest := [.int (0 : Int32), .ref x4]) r176_6 rfl rfl (Nat.le_of_ble_eq_true rfl) (Nat.le_of_ble_eq_true rfl) (fun _ => ⟨_, _, rfl, h1⟩) (by decide) rfl rfl rfl rfl hy k)
theorem b176_9 {d : Nat} {q : Rs} {x0 : Nat} {x1 : Int32} {x2 : Int64} {x4 : Nat} {s0 : Nat} {s1 : Int32} {s2 : Int32} {σ : St} (h1 : isL s0 ∧ vp_in s1 (ale s0))
    (k : Er (d + 1) 176 (18, [some (.ref x0), some (.int x1), some (.long x2), none, some (.ref x4), none], [], (sal σ s0 s1.toNatClampNeg (s2.toInt64))) q) :
    Er (d + 1) 176 (9, [some (.ref x0), some (.int x1), some (.long x2), none, some (.ref x4), none], [.int s2, .int s1, .ref s0], σ) q := Er.sT (c2 := (10, [some (.ref x0), some (.int x1), some (.long x2), none, some (.ref x4), none], [.long (s2.toInt64), .int s1, .ref s0], σ)) r176_9 rfl rfl <| Er.st (P := (isL s0 ∧ vp_in s1 (ale s0))) (c2 := (11, [some (.ref x0), some (.int x1), some (.long x2), none, some (.ref x4), none], [], (sal σ s0 s1.toNatClampNeg (s2.toInt64)))) r176_10 rfl rfl h1 <| Er.sT (c2 := (18, [some (.ref x0), some (.int x1), some (.long x2), none, some (.ref x4), none], [], (sal σ s0 s1.toNatClampNeg (s2.toInt64)))) r176_11 rfl rfl <| k
theorem b176_16 {d : Nat} {x0 : Nat} {x1 : Int32} {x2 : Int64} {x4 : Nat} {σ : St}  :
    Er (d + 1) 176 (16, [some (.ref x0), some (.int x1), some (.long x2), none, some (.ref x4), none], [], σ) (.inl (some (.int (1 : Int32))), σ, 0) := Er.sT (c2 := (17, [some (.ref x0), some (.int x1), some (.long x2), none, some (.ref x4), none], [.int (1 : Int32)], σ)) r176_16 rfl rfl <| (Er.ret r176_17 rfl ⟨_, _, rfl, rfl, rfl, rfl⟩)
theorem b176_18 {d : Nat} {x0 : Nat} {x1 : Int32} {x2 : Int64} {x4 : Nat} {σ : St}  :
    Er (d + 1) 176 (18, [some (.ref x0), some (.int x1), some (.long x2), none, some (.ref x4), none], [], σ) (.inl (some (.int (0 : Int32))), σ, 0) := Er.sT (c2 := (19, [some (.ref x0), some (.int x1), some (.long x2), none, some (.ref x4), none], [.int (0 : Int32)], σ)) r176_18 rfl rfl <| (Er.ret r176_19 rfl ⟨_, _, rfl, rfl, rfl, rfl⟩)
/-! NumberModelsLaw.nearest(LNumberModels;II[J)I -/
theorem tab_177 : tab 177 = tb177_0 := rfl
theorem ch177_0 {j : Nat} {r : Row} (h : tb177_0[j]? = some r) : rowAt 177 r.1 = some r := row_mem 177 (by decide) (by rw [tab_177]; exact List.mem_of_getElem? h)
theorem r177_0 : rowAt 177 0 = some (ra 0 1 (.aload_n 3) 3 0 0) := ch177_0 (j := 0) rfl
theorem r177_1 : rowAt 177 1 = some (r0 1 2 (.iconst 0)) := ch177_0 (j := 1) rfl
theorem r177_2 : rowAt 177 2 = some (r0 2 3 (.aload_n 0)) := ch177_0 (j := 2) rfl
theorem r177_3 : rowAt 177 3 = some (ra 3 4 (.iload_n 1) 1 0 0) := ch177_0 (j := 3) rfl
theorem r177_4 : rowAt 177 4 = some (ra 4 5 (.iload_n 2) 2 0 0) := ch177_0 (j := 4) rfl
theorem r177_5 : rowAt 177 5 = some (ra 5 8 (.invokevirtual 56) 69 3 739) := ch177_0 (j := 5) rfl
theorem r177_8 : rowAt 177 8 = some (r0 8 9 (.lastore)) := ch177_0 (j := 6) rfl
theorem r177_9 : rowAt 177 9 = some (ra 9 12 (.goto 11) 20 0 0) := ch177_0 (j := 7) rfl
theorem r177_14 : rowAt 177 14 = some (14, 15, .iconst 1, 0, 0, 0, 1, 0) := ch177_0 (j := 9) rfl
theorem r177_15 : rowAt 177 15 = some (r0 15 16 (.ireturn)) := ch177_0 (j := 10) rfl
theorem r177_18 : rowAt 177 18 = some (18, 19, .iconst 2, 0, 0, 0, 2, 0) := ch177_0 (j := 12) rfl
theorem r177_19 : rowAt 177 19 = some (r0 19 20 (.ireturn)) := ch177_0 (j := 13) rfl
theorem r177_20 : rowAt 177 20 = some (r0 20 21 (.iconst 0)) := ch177_0 (j := 14) rfl
theorem r177_21 : rowAt 177 21 = some (r0 21 22 (.ireturn)) := ch177_0 (j := 15) rfl
theorem b177_0 {d : Nat} {q : Rs} {x0 : Nat} {x1 : Int32} {x2 : Int32} {x3 : Nat} {σ : St} {σ2 : St} {r : Int64} (h1 : x0 < 24 ∧ kls x0 = 4)
    (hy : Er d 69 (0, ent 69 [.ref x0, .int x1, .int x2], [], σ) (.inl (some (.long r)), σ2, 0))
    (k : Er (d + 1) 177 (8, [some (.ref x0), some (.int x1), some (.int x2), some (.ref x3), none], [.long r, .int (0 : Int32), .ref x3], σ2) q) :
    Er (d + 1) 177 (0, [some (.ref x0), some (.int x1), some (.int x2), some (.ref x3), none], [], σ) q := Er.sT (c2 := (1, [some (.ref x0), some (.int x1), some (.int x2), some (.ref x3), none], [.ref x3], σ)) r177_0 rfl rfl <| Er.sT (c2 := (2, [some (.ref x0), some (.int x1), some (.int x2), some (.ref x3), none], [.int (0 : Int32), .ref x3], σ)) r177_1 rfl rfl <| Er.sT (c2 := (3, [some (.ref x0), some (.int x1), some (.int x2), some (.ref x3), none], [.ref x0, .int (0 : Int32), .ref x3], σ)) r177_2 rfl rfl <| Er.sT (c2 := (4, [some (.ref x0), some (.int x1), some (.int x2), some (.ref x3), none], [.int x1, .ref x0, .int (0 : Int32), .ref x3], σ)) r177_3 rfl rfl <| Er.sT (c2 := (5, [some (.ref x0), some (.int x1), some (.int x2), some (.ref x3), none], [.int x2, .int x1, .ref x0, .int (0 : Int32), .ref x3], σ)) r177_4 rfl rfl <| (Er.call (vs := [.ref x0, .int x1, .int x2]) (rest := [.int (0 : Int32), .ref x3]) r177_5 rfl rfl (Nat.le_of_ble_eq_true rfl) (Nat.le_of_ble_eq_true rfl) (fun _ => ⟨_, _, rfl, h1⟩) hy k)
theorem b177_0x0 {d c9 : Nat} {q : Rs} {x0 : Nat} {x1 : Int32} {x2 : Int32} {x3 : Nat} {σ : St} {σ2 : St} (h1 : x0 < 24 ∧ kls x0 = 4)
    (hy : Er d 69 (0, ent 69 [.ref x0, .int x1, .int x2], [], σ) (.inr 0, σ2, c9))
    (k : Er (d + 1) 177 (14, [some (.ref x0), some (.int x1), some (.int x2), some (.ref x3), none], [], σ2) q) :
    Er (d + 1) 177 (0, [some (.ref x0), some (.int x1), some (.int x2), some (.ref x3), none], [], σ) (q.1, q.2.1, c9 + q.2.2) := Er.sT (c2 := (1, [some (.ref x0), some (.int x1), some (.int x2), some (.ref x3), none], [.ref x3], σ)) r177_0 rfl rfl <| Er.sT (c2 := (2, [some (.ref x0), some (.int x1), some (.int x2), some (.ref x3), none], [.int (0 : Int32), .ref x3], σ)) r177_1 rfl rfl <| Er.sT (c2 := (3, [some (.ref x0), some (.int x1), some (.int x2), some (.ref x3), none], [.ref x0, .int (0 : Int32), .ref x3], σ)) r177_2 rfl rfl <| Er.sT (c2 := (4, [some (.ref x0), some (.int x1), some (.int x2), some (.ref x3), none], [.int x1, .ref x0, .int (0 : Int32), .ref x3], σ)) r177_3 rfl rfl <| Er.sT (c2 := (5, [some (.ref x0), some (.int x1), some (.int x2), some (.ref x3), none], [.int x2, .int x1, .ref x0, .int (0 : Int32), .ref x3], σ)) r177_4 rfl rfl <| (Er.callh (x := 0) (hp := 12) (vs := [.ref x0, .int x1, .int x2]) (rest := [.int (0 : Int32), .ref x3]) r177_5 rfl rfl (Nat.le_of_ble_eq_true rfl) (Nat.le_of_ble_eq_true rfl) (fun _ => ⟨_, _, rfl, h1⟩) (by decide) rfl rfl rfl rfl hy k)
theorem b177_0x1 {d c9 : Nat} {q : Rs} {x0 : Nat} {x1 : Int32} {x2 : Int32} {x3 : Nat} {σ : St} {σ2 : St} (h1 : x0 < 24 ∧ kls x0 = 4)
    (hy : Er d 69 (0, ent 69 [.ref x0, .int x1, .int x2], [], σ) (.inr 1, σ2, c9))
    (k : Er (d + 1) 177 (18, [some (.ref x0), some (.int x1), some (.int x2), some (.ref x3), none], [], σ2) q) :
    Er (d + 1) 177 (0, [some (.ref x0), some (.int x1), some (.int x2), some (.ref x3), none], [], σ) (q.1, q.2.1, c9 + q.2.2) := Er.sT (c2 := (1, [some (.ref x0), some (.int x1), some (.int x2), some (.ref x3), none], [.ref x3], σ)) r177_0 rfl rfl <| Er.sT (c2 := (2, [some (.ref x0), some (.int x1), some (.int x2), some (.ref x3), none], [.int (0 : Int32), .ref x3], σ)) r177_1 rfl rfl <| Er.sT (c2 := (3, [some (.ref x0), some (.int x1), some (.int x2), some (.ref x3), none], [.ref x0, .int (0 : Int32), .ref x3], σ)) r177_2 rfl rfl <| Er.sT (c2 := (4, [some (.ref x0), some (.int x1), some (.int x2), some (.ref x3), none], [.int x1, .ref x0, .int (0 : Int32), .ref x3], σ)) r177_3 rfl rfl <| Er.sT (c2 := (5, [some (.ref x0), some (.int x1), some (.int x2), some (.ref x3), none], [.int x2, .int x1, .ref x0, .int (0 : Int32), .ref x3], σ)) r177_4 rfl rfl <| (Er.callh (x := 1) (hp := 16) (vs := [.ref x0, .int x1, .int x2]) (rest := [.int (0 : Int32), .ref x3]) r177_5 rfl rfl (Nat.le_of_ble_eq_true rfl) (Nat.le_of_ble_eq_true rfl) (fun _ => ⟨_, _, rfl, h1⟩) (by decide) rfl rfl rfl rfl hy k)
theorem b177_8 {d : Nat} {q : Rs} {x0 : Nat} {x1 : Int32} {x2 : Int32} {x3 : Nat} {s0 : Nat} {s1 : Int32} {s2 : Int64} {σ : St} (h1 : isL s0 ∧ vp_in s1 (ale s0))
    (k : Er (d + 1) 177 (20, [some (.ref x0), some (.int x1), some (.int x2), some (.ref x3), none], [], (sal σ s0 s1.toNatClampNeg s2)) q) :
    Er (d + 1) 177 (8, [some (.ref x0), some (.int x1), some (.int x2), some (.ref x3), none], [.long s2, .int s1, .ref s0], σ) q := Er.st (P := (isL s0 ∧ vp_in s1 (ale s0))) (c2 := (9, [some (.ref x0), some (.int x1), some (.int x2), some (.ref x3), none], [], (sal σ s0 s1.toNatClampNeg s2))) r177_8 rfl rfl h1 <| Er.sT (c2 := (20, [some (.ref x0), some (.int x1), some (.int x2), some (.ref x3), none], [], (sal σ s0 s1.toNatClampNeg s2))) r177_9 rfl rfl <| k
theorem b177_14 {d : Nat} {x0 : Nat} {x1 : Int32} {x2 : Int32} {x3 : Nat} {σ : St}  :
    Er (d + 1) 177 (14, [some (.ref x0), some (.int x1), some (.int x2), some (.ref x3), none], [], σ) (.inl (some (.int (1 : Int32))), σ, 0) := Er.sT (c2 := (15, [some (.ref x0), some (.int x1), some (.int x2), some (.ref x3), none], [.int (1 : Int32)], σ)) r177_14 rfl rfl <| (Er.ret r177_15 rfl ⟨_, _, rfl, rfl, rfl, rfl⟩)
theorem b177_18 {d : Nat} {x0 : Nat} {x1 : Int32} {x2 : Int32} {x3 : Nat} {σ : St}  :
    Er (d + 1) 177 (18, [some (.ref x0), some (.int x1), some (.int x2), some (.ref x3), none], [], σ) (.inl (some (.int (2 : Int32))), σ, 0) := Er.sT (c2 := (19, [some (.ref x0), some (.int x1), some (.int x2), some (.ref x3), none], [.int (2 : Int32)], σ)) r177_18 rfl rfl <| (Er.ret r177_19 rfl ⟨_, _, rfl, rfl, rfl, rfl⟩)
theorem b177_20 {d : Nat} {x0 : Nat} {x1 : Int32} {x2 : Int32} {x3 : Nat} {σ : St}  :
    Er (d + 1) 177 (20, [some (.ref x0), some (.int x1), some (.int x2), some (.ref x3), none], [], σ) (.inl (some (.int (0 : Int32))), σ, 0) := Er.sT (c2 := (21, [some (.ref x0), some (.int x1), some (.int x2), some (.ref x3), none], [.int (0 : Int32)], σ)) r177_20 rfl rfl <| (Er.ret r177_21 rfl ⟨_, _, rfl, rfl, rfl, rfl⟩)
/-! NumberModelsLaw.single(LNumberModels;II[J)I -/
theorem tab_178 : tab 178 = tb178_0 := rfl
theorem ch178_0 {j : Nat} {r : Row} (h : tb178_0[j]? = some r) : rowAt 178 r.1 = some r := row_mem 178 (by decide) (by rw [tab_178]; exact List.mem_of_getElem? h)
theorem r178_0 : rowAt 178 0 = some (ra 0 1 (.aload_n 3) 3 0 0) := ch178_0 (j := 0) rfl
theorem r178_1 : rowAt 178 1 = some (r0 1 2 (.iconst 0)) := ch178_0 (j := 1) rfl
theorem r178_2 : rowAt 178 2 = some (r0 2 3 (.aload_n 0)) := ch178_0 (j := 2) rfl
theorem r178_3 : rowAt 178 3 = some (ra 3 4 (.iload_n 1) 1 0 0) := ch178_0 (j := 3) rfl
theorem r178_4 : rowAt 178 4 = some (ra 4 5 (.iload_n 2) 2 0 0) := ch178_0 (j := 4) rfl
theorem r178_5 : rowAt 178 5 = some (ra 5 8 (.invokevirtual 59) 72 3 773) := ch178_0 (j := 5) rfl
theorem r178_8 : rowAt 178 8 = some (r0 8 9 (.i2l)) := ch178_0 (j := 6) rfl
theorem r178_9 : rowAt 178 9 = some (r0 9 10 (.lastore)) := ch178_0 (j := 7) rfl
theorem r178_10 : rowAt 178 10 = some (ra 10 13 (.goto 11) 21 0 0) := ch178_0 (j := 8) rfl
theorem r178_15 : rowAt 178 15 = some (15, 16, .iconst 1, 0, 0, 0, 1, 0) := ch178_0 (j := 10) rfl
theorem r178_16 : rowAt 178 16 = some (r0 16 17 (.ireturn)) := ch178_0 (j := 11) rfl
theorem r178_19 : rowAt 178 19 = some (19, 20, .iconst 2, 0, 0, 0, 2, 0) := ch178_0 (j := 13) rfl
theorem r178_20 : rowAt 178 20 = some (r0 20 21 (.ireturn)) := ch178_0 (j := 14) rfl
theorem r178_21 : rowAt 178 21 = some (r0 21 22 (.iconst 0)) := ch178_0 (j := 15) rfl
theorem r178_22 : rowAt 178 22 = some (r0 22 23 (.ireturn)) := ch178_0 (j := 16) rfl
theorem b178_0 {d : Nat} {q : Rs} {x0 : Nat} {x1 : Int32} {x2 : Int32} {x3 : Nat} {σ : St} {σ2 : St} {r : Int32} (h1 : x0 < 24 ∧ kls x0 = 4)
    (hy : Er d 72 (0, ent 72 [.ref x0, .int x1, .int x2], [], σ) (.inl (some (.int r)), σ2, 0))
    (k : Er (d + 1) 178 (8, [some (.ref x0), some (.int x1), some (.int x2), some (.ref x3), none], [.int r, .int (0 : Int32), .ref x3], σ2) q) :
    Er (d + 1) 178 (0, [some (.ref x0), some (.int x1), some (.int x2), some (.ref x3), none], [], σ) q := Er.sT (c2 := (1, [some (.ref x0), some (.int x1), some (.int x2), some (.ref x3), none], [.ref x3], σ)) r178_0 rfl rfl <| Er.sT (c2 := (2, [some (.ref x0), some (.int x1), some (.int x2), some (.ref x3), none], [.int (0 : Int32), .ref x3], σ)) r178_1 rfl rfl <| Er.sT (c2 := (3, [some (.ref x0), some (.int x1), some (.int x2), some (.ref x3), none], [.ref x0, .int (0 : Int32), .ref x3], σ)) r178_2 rfl rfl <| Er.sT (c2 := (4, [some (.ref x0), some (.int x1), some (.int x2), some (.ref x3), none], [.int x1, .ref x0, .int (0 : Int32), .ref x3], σ)) r178_3 rfl rfl <| Er.sT (c2 := (5, [some (.ref x0), some (.int x1), some (.int x2), some (.ref x3), none], [.int x2, .int x1, .ref x0, .int (0 : Int32), .ref x3], σ)) r178_4 rfl rfl <| (Er.call (vs := [.ref x0, .int x1, .int x2]) (rest := [.int (0 : Int32), .ref x3]) r178_5 rfl rfl (Nat.le_of_ble_eq_true rfl) (Nat.le_of_ble_eq_true rfl) (fun _ => ⟨_, _, rfl, h1⟩) hy k)
theorem b178_0x0 {d c9 : Nat} {q : Rs} {x0 : Nat} {x1 : Int32} {x2 : Int32} {x3 : Nat} {σ : St} {σ2 : St} (h1 : x0 < 24 ∧ kls x0 = 4)
    (hy : Er d 72 (0, ent 72 [.ref x0, .int x1, .int x2], [], σ) (.inr 0, σ2, c9))
    (k : Er (d + 1) 178 (15, [some (.ref x0), some (.int x1), some (.int x2), some (.ref x3), none], [], σ2) q) :
    Er (d + 1) 178 (0, [some (.ref x0), some (.int x1), some (.int x2), some (.ref x3), none], [], σ) (q.1, q.2.1, c9 + q.2.2) := Er.sT (c2 := (1, [some (.ref x0), some (.int x1), some (.int x2), some (.ref x3), none], [.ref x3], σ)) r178_0 rfl rfl <| Er.sT (c2 := (2, [some (.ref x0), some (.int x1), some (.int x2), some (.ref x3), none], [.int (0 : Int32), .ref x3], σ)) r178_1 rfl rfl <| Er.sT (c2 := (3, [some (.ref x0), some (.int x1), some (.int x2), some (.ref x3), none], [.ref x0, .int (0 : Int32), .ref x3], σ)) r178_2 rfl rfl <| Er.sT (c2 := (4, [some (.ref x0), some (.int x1), some (.int x2), some (.ref x3), none], [.int x1, .ref x0, .int (0 : Int32), .ref x3], σ)) r178_3 rfl rfl <| Er.sT (c2 := (5, [some (.ref x0), some (.int x1), some (.int x2), some (.ref x3), none], [.int x2, .int x1, .ref x0, .int (0 : Int32), .ref x3], σ)) r178_4 rfl rfl <| (Er.callh (x := 0) (hp := 13) (vs := [.ref x0, .int x1, .int x2]) (rest := [.int (0 : Int32), .ref x3]) r178_5 rfl rfl (Nat.le_of_ble_eq_true rfl) (Nat.le_of_ble_eq_true rfl) (fun _ => ⟨_, _, rfl, h1⟩) (by decide) rfl rfl rfl rfl hy k)
theorem b178_0x1 {d c9 : Nat} {q : Rs} {x0 : Nat} {x1 : Int32} {x2 : Int32} {x3 : Nat} {σ : St} {σ2 : St} (h1 : x0 < 24 ∧ kls x0 = 4)
    (hy : Er d 72 (0, ent 72 [.ref x0, .int x1, .int x2], [], σ) (.inr 1, σ2, c9))
    (k : Er (d + 1) 178 (19, [some (.ref x0), some (.int x1), some (.int x2), some (.ref x3), none], [], σ2) q) :
    Er (d + 1) 178 (0, [some (.ref x0), some (.int x1), some (.int x2), some (.ref x3), none], [], σ) (q.1, q.2.1, c9 + q.2.2) := Er.sT (c2 := (1, [some (.ref x0), some (.int x1), some (.int x2), some (.ref x3), none], [.ref x3], σ)) r178_0 rfl rfl <| Er.sT (c2 := (2, [some (.ref x0), some (.int x1), some (.int x2), some (.ref x3), none], [.int (0 : Int32), .ref x3], σ)) r178_1 rfl rfl <| Er.sT (c2 := (3, [some (.ref x0), some (.int x1), some (.int x2), some (.ref x3), none], [.ref x0, .int (0 : Int32), .ref x3], σ)) r178_2 rfl rfl <| Er.sT (c2 := (4, [some (.ref x0), some (.int x1), some (.int x2), some (.ref x3), none], [.int x1, .ref x0, .int (0 : Int32), .ref x3], σ)) r178_3 rfl rfl <| Er.sT (c2 := (5, [some (.ref x0), some (.int x1), some (.int x2), some (.ref x3), none], [.int x2, .int x1, .ref x0, .int (0 : Int32), .ref x3], σ)) r178_4 rfl rfl <| (Er.callh (x := 1) (hp := 17) (vs := [.ref x0, .int x1, .int x2]) (rest := [.int (0 : Int32), .ref x3]) r178_5 rfl rfl (Nat.le_of_ble_eq_true rfl) (Nat.le_of_ble_eq_true rfl) (fun _ => ⟨_, _, rfl, h1⟩) (by decide) rfl rfl rfl rfl hy k)
theorem b178_8 {d : Nat} {q : Rs} {x0 : Nat} {x1 : Int32} {x2 : Int32} {x3 : Nat} {s0 : Nat} {s1 : Int32} {s2 : Int32} {σ : St} (h1 : isL s0 ∧ vp_in s1 (ale s0))
    (k : Er (d + 1) 178 (21, [some (.ref x0), some (.int x1), some (.int x2), some (.ref x3), none], [], (sal σ s0 s1.toNatClampNeg (s2.toInt64))) q) :
    Er (d + 1) 178 (8, [some (.ref x0), some (.int x1), some (.int x2), some (.ref x3), none], [.int s2, .int s1, .ref s0], σ) q := Er.sT (c2 := (9, [some (.ref x0), some (.int x1), some (.int x2), some (.ref x3), none], [.long (s2.toInt64), .int s1, .ref s0], σ)) r178_8 rfl rfl <| Er.st (P := (isL s0 ∧ vp_in s1 (ale s0))) (c2 := (10, [some (.ref x0), some (.int x1), some (.int x2), some (.ref x3), none], [], (sal σ s0 s1.toNatClampNeg (s2.toInt64)))) r178_9 rfl rfl h1 <| Er.sT (c2 := (21, [some (.ref x0), some (.int x1), some (.int x2), some (.ref x3), none], [], (sal σ s0 s1.toNatClampNeg (s2.toInt64)))) r178_10 rfl rfl <| k
theorem b178_15 {d : Nat} {x0 : Nat} {x1 : Int32} {x2 : Int32} {x3 : Nat} {σ : St}  :
    Er (d + 1) 178 (15, [some (.ref x0), some (.int x1), some (.int x2), some (.ref x3), none], [], σ) (.inl (some (.int (1 : Int32))), σ, 0) := Er.sT (c2 := (16, [some (.ref x0), some (.int x1), some (.int x2), some (.ref x3), none], [.int (1 : Int32)], σ)) r178_15 rfl rfl <| (Er.ret r178_16 rfl ⟨_, _, rfl, rfl, rfl, rfl⟩)
theorem b178_19 {d : Nat} {x0 : Nat} {x1 : Int32} {x2 : Int32} {x3 : Nat} {σ : St}  :
    Er (d + 1) 178 (19, [some (.ref x0), some (.int x1), some (.int x2), some (.ref x3), none], [], σ) (.inl (some (.int (2 : Int32))), σ, 0) := Er.sT (c2 := (20, [some (.ref x0), some (.int x1), some (.int x2), some (.ref x3), none], [.int (2 : Int32)], σ)) r178_19 rfl rfl <| (Er.ret r178_20 rfl ⟨_, _, rfl, rfl, rfl, rfl⟩)
theorem b178_21 {d : Nat} {x0 : Nat} {x1 : Int32} {x2 : Int32} {x3 : Nat} {σ : St}  :
    Er (d + 1) 178 (21, [some (.ref x0), some (.int x1), some (.int x2), some (.ref x3), none], [], σ) (.inl (some (.int (0 : Int32))), σ, 0) := Er.sT (c2 := (22, [some (.ref x0), some (.int x1), some (.int x2), some (.ref x3), none], [.int (0 : Int32)], σ)) r178_21 rfl rfl <| (Er.ret r178_22 rfl ⟨_, _, rfl, rfl, rfl, rfl⟩)
/-! NumberModelsLaw.machine(LNumberModels;IJJ[J)I -/
theorem tab_179 : tab 179 = tb179_0 := rfl
theorem ch179_0 {j : Nat} {r : Row} (h : tb179_0[j]? = some r) : rowAt 179 r.1 = some r := row_mem 179 (by decide) (by rw [tab_179]; exact List.mem_of_getElem? h)
theorem r179_0 : rowAt 179 0 = some (ra 0 2 (.aload 6) 6 0 0) := ch179_0 (j := 0) rfl
theorem r179_2 : rowAt 179 2 = some (r0 2 3 (.iconst 0)) := ch179_0 (j := 1) rfl
theorem r179_3 : rowAt 179 3 = some (r0 3 4 (.aload_n 0)) := ch179_0 (j := 2) rfl
theorem r179_4 : rowAt 179 4 = some (ra 4 5 (.iload_n 1) 1 0 0) := ch179_0 (j := 3) rfl
theorem r179_5 : rowAt 179 5 = some (ra 5 6 (.lload_n 2) 2 0 0) := ch179_0 (j := 4) rfl
theorem r179_6 : rowAt 179 6 = some (ra 6 8 (.lload 4) 4 0 0) := ch179_0 (j := 5) rfl
theorem r179_8 : rowAt 179 8 = some (ra 8 11 (.invokevirtual 62) 73 4 782) := ch179_0 (j := 6) rfl
theorem r179_11 : rowAt 179 11 = some (r0 11 12 (.lastore)) := ch179_0 (j := 7) rfl
theorem r179_12 : rowAt 179 12 = some (ra 12 15 (.goto 7) 19 0 0) := ch179_0 (j := 8) rfl
theorem r179_17 : rowAt 179 17 = some (17, 18, .iconst 1, 0, 0, 0, 1, 0) := ch179_0 (j := 10) rfl
theorem r179_18 : rowAt 179 18 = some (r0 18 19 (.ireturn)) := ch179_0 (j := 11) rfl
theorem r179_19 : rowAt 179 19 = some (r0 19 20 (.iconst 0)) := ch179_0 (j := 12) rfl
theorem r179_20 : rowAt 179 20 = some (r0 20 21 (.ireturn)) := ch179_0 (j := 13) rfl
theorem b179_0 {d : Nat} {q : Rs} {x0 : Nat} {x1 : Int32} {x2 : Int64} {x4 : Int64} {x6 : Nat} {σ : St} {σ2 : St} {r : Int64} (h1 : x0 < 24 ∧ kls x0 = 4)
    (hy : Er d 73 (0, ent 73 [.ref x0, .int x1, .long x2, .long x4], [], σ) (.inl (some (.long r)), σ2, 0))
    (k : Er (d + 1) 179 (11, [some (.ref x0), some (.int x1), some (.long x2), none, some (.long x4), none, some (.ref x6), none], [.long r, .int (0 : Int32), .ref x6], σ2) q) :
    Er (d + 1) 179 (0, [some (.ref x0), some (.int x1), some (.long x2), none, some (.long x4), none, some (.ref x6), none], [], σ) q := Er.sT (c2 := (2, [some (.ref x0), some (.int x1), some (.long x2), none, some (.long x4), none, some (.ref x6), none], [.ref x6], σ)) r179_0 rfl rfl <| Er.sT (c2 := (3, [some (.ref x0), some (.int x1), some (.long x2), none, some (.long x4), none, some (.ref x6), none], [.int (0 : Int32), .ref x6], σ)) r179_2 rfl rfl <| Er.sT (c2 := (4, [some (.ref x0), some (.int x1), some (.long x2), none, some (.long x4), none, some (.ref x6), none], [.ref x0, .int (0 : Int32), .ref x6], σ)) r179_3 rfl rfl <| Er.sT (c2 := (5, [some (.ref x0), some (.int x1), some (.long x2), none, some (.long x4), none, some (.ref x6), none], [.int x1, .ref x0, .int (0 : Int32), .ref x6], σ)) r179_4 rfl rfl <| Er.sT (c2 := (6, [some (.ref x0), some (.int x1), some (.long x2), none, some (.long x4), none, some (.ref x6), none], [.long x2, .int x1, .ref x0, .int (0 : Int32), .ref x6], σ)) r179_5 rfl rfl <| Er.sT (c2 := (8, [some (.ref x0), some (.int x1), some (.long x2), none, some (.long x4), none, some (.ref x6), none], [.long x4, .long x2, .int x1, .ref x0, .int (0 : Int32), .ref x6], σ)) r179_6 rfl rfl <| (Er.call (vs := [.ref x0, .int x1, .long x2, .long x4]) (rest := [.int (0 : Int32), .ref x6]) r179_8 rfl rfl (Nat.le_of_ble_eq_true rfl) (Nat.le_of_ble_eq_true rfl) (fun _ => ⟨_, _, rfl, h1⟩) hy k)
theorem b179_0x1 {d c9 : Nat} {q : Rs} {x0 : Nat} {x1 : Int32} {x2 : Int64} {x4 : Int64} {x6 : Nat} {σ : St} {σ2 : St} (h1 : x0 < 24 ∧ kls x0 = 4)
    (hy : Er d 73 (0, ent 73 [.ref x0, .int x1, .long x2, .long x4], [], σ) (.inr 1, σ2, c9))
    (k : Er (d + 1) 179 (17, [some (.ref x0), some (.int x1), some (.long x2), none, some (.long x4), none, some (.ref x6), none], [], σ2) q) :
    Er (d + 1) 179 (0, [some (.ref x0), some (.int x1), some (.long x2), none, some (.long x4), none, some (.ref x6), none], [], σ) (q.1, q.2.1, c9 + q.2.2) := Er.sT (c2 := (2, [some (.ref x0), some (.int x1), some (.long x2), none, some (.long x4), none, some (.ref x6), none], [.ref x6], σ)) r179_0 rfl rfl <| Er.sT (c2 := (3, [some (.ref x0), some (.int x1), some (.long x2), none, some (.long x4), none, some (.ref x6), none], [.int (0 : Int32), .ref x6], σ)) r179_2 rfl rfl <| Er.sT (c2 := (4, [some (.ref x0), some (.int x1), some (.long x2), none, some (.long x4), none, some (.ref x6), none], [.ref x0, .int (0 : Int32), .ref x6], σ)) r179_3 rfl rfl <| Er.sT (c2 := (5, [some (.ref x0), some (.int x1), some (.long x2), none, some (.long x4), none, some (.ref x6), none], [.int x1, .ref x0, .int (0 : Int32), .ref x6], σ)) r179_4 rfl rfl <| Er.sT (c2 := (6, [some (.ref x0), some (.int x1), some (.long x2), none, some (.long x4), none, some (.ref x6), none], [.long x2, .int x1, .ref x0, .int (0 : Int32), .ref x6], σ)) r179_5 rfl rfl <| Er.sT (c2 := (8, [some (.ref x0), some (.int x1), some (.long x2), none, some (.long x4), none, some (.ref x6), none], [.long x4, .long x2, .int x1, .ref x0, .int (0 : Int32), .ref x6], σ)) r179_6 rfl rfl <| (Er.callh (x := 1) (hp := 15) (vs := [.ref x0, .int x1, .long x2, .long x4]) (rest := [.int (0 : Int32), .ref x6]) r179_8 rfl rfl (Nat.le_of_ble_eq_true rfl) (Nat.le_of_ble_eq_true rfl) (fun _ => ⟨_, _, rfl, h1⟩) (by decide) rfl rfl rfl rfl hy k)
theorem b179_11 {d : Nat} {q : Rs} {x0 : Nat} {x1 : Int32} {x2 : Int64} {x4 : Int64} {x6 : Nat} {s0 : Nat} {s1 : Int32} {s2 : Int64} {σ : St} (h1 : isL s0 ∧ vp_in s1 (ale s0))
    (k : Er (d + 1) 179 (19, [some (.ref x0), some (.int x1), some (.long x2), none, some (.long x4), none, some (.ref x6), none], [], (sal σ s0 s1.toNatClampNeg s2)) q) :
    Er (d + 1) 179 (11, [some (.ref x0), some (.int x1), some (.long x2), none, some (.long x4), none, some (.ref x6), none], [.long s2, .int s1, .ref s0], σ) q := Er.st (P := (isL s0 ∧ vp_in s1 (ale s0))) (c2 := (12, [some (.ref x0), some (.int x1), some (.long x2), none, some (.long x4), none, some (.ref x6), none], [], (sal σ s0 s1.toNatClampNeg s2))) r179_11 rfl rfl h1 <| Er.sT (c2 := (19, [some (.ref x0), some (.int x1), some (.long x2), none, some (.long x4), none, some (.ref x6), none], [], (sal σ s0 s1.toNatClampNeg s2))) r179_12 rfl rfl <| k
theorem b179_17 {d : Nat} {x0 : Nat} {x1 : Int32} {x2 : Int64} {x4 : Int64} {x6 : Nat} {σ : St}  :
    Er (d + 1) 179 (17, [some (.ref x0), some (.int x1), some (.long x2), none, some (.long x4), none, some (.ref x6), none], [], σ) (.inl (some (.int (1 : Int32))), σ, 0) := Er.sT (c2 := (18, [some (.ref x0), some (.int x1), some (.long x2), none, some (.long x4), none, some (.ref x6), none], [.int (1 : Int32)], σ)) r179_17 rfl rfl <| (Er.ret r179_18 rfl ⟨_, _, rfl, rfl, rfl, rfl⟩)
theorem b179_19 {d : Nat} {x0 : Nat} {x1 : Int32} {x2 : Int64} {x4 : Int64} {x6 : Nat} {σ : St}  :
    Er (d + 1) 179 (19, [some (.ref x0), some (.int x1), some (.long x2), none, some (.long x4), none, some (.ref x6), none], [], σ) (.inl (some (.int (0 : Int32))), σ, 0) := Er.sT (c2 := (20, [some (.ref x0), some (.int x1), some (.long x2), none, some (.long x4), none, some (.ref x6), none], [.int (0 : Int32)], σ)) r179_19 rfl rfl <| (Er.ret r179_20 rfl ⟨_, _, rfl, rfl, rfl, rfl⟩)
/-! NumberModelsLaw.cast(LNumberModels;IJ[J)I -/
theorem tab_180 : tab 180 = tb180_0 := rfl
theorem ch180_0 {j : Nat} {r : Row} (h : tb180_0[j]? = some r) : rowAt 180 r.1 = some r := row_mem 180 (by decide) (by rw [tab_180]; exact List.mem_of_getElem? h)
theorem r180_0 : rowAt 180 0 = some (ra 0 2 (.aload 4) 4 0 0) := ch180_0 (j := 0) rfl
theorem r180_2 : rowAt 180 2 = some (r0 2 3 (.iconst 0)) := ch180_0 (j := 1) rfl
theorem r180_3 : rowAt 180 3 = some (r0 3 4 (.aload_n 0)) := ch180_0 (j := 2) rfl
theorem r180_4 : rowAt 180 4 = some (ra 4 5 (.iload_n 1) 1 0 0) := ch180_0 (j := 3) rfl
theorem r180_5 : rowAt 180 5 = some (ra 5 6 (.lload_n 2) 2 0 0) := ch180_0 (j := 4) rfl
theorem r180_6 : rowAt 180 6 = some (ra 6 9 (.invokevirtual 66) 74 3 848) := ch180_0 (j := 5) rfl
theorem r180_9 : rowAt 180 9 = some (r0 9 10 (.lastore)) := ch180_0 (j := 6) rfl
theorem r180_10 : rowAt 180 10 = some (ra 10 13 (.goto 7) 17 0 0) := ch180_0 (j := 7) rfl
theorem r180_15 : rowAt 180 15 = some (15, 16, .iconst 1, 0, 0, 0, 1, 0) := ch180_0 (j := 9) rfl
theorem r180_16 : rowAt 180 16 = some (r0 16 17 (.ireturn)) := ch180_0 (j := 10) rfl
theorem r180_17 : rowAt 180 17 = some (r0 17 18 (.iconst 0)) := ch180_0 (j := 11) rfl
theorem r180_18 : rowAt 180 18 = some (r0 18 19 (.ireturn)) := ch180_0 (j := 12) rfl
theorem b180_0 {d : Nat} {q : Rs} {x0 : Nat} {x1 : Int32} {x2 : Int64} {x4 : Nat} {σ : St} {σ2 : St} {r : Int64} (h1 : x0 < 24 ∧ kls x0 = 4)
    (hy : Er d 74 (0, ent 74 [.ref x0, .int x1, .long x2], [], σ) (.inl (some (.long r)), σ2, 0))
    (k : Er (d + 1) 180 (9, [some (.ref x0), some (.int x1), some (.long x2), none, some (.ref x4), none], [.long r, .int (0 : Int32), .ref x4], σ2) q) :
    Er (d + 1) 180 (0, [some (.ref x0), some (.int x1), some (.long x2), none, some (.ref x4), none], [], σ) q := Er.sT (c2 := (2, [some (.ref x0), some (.int x1), some (.long x2), none, some (.ref x4), none], [.ref x4], σ)) r180_0 rfl rfl <| Er.sT (c2 := (3, [some (.ref x0), some (.int x1), some (.long x2), none, some (.ref x4), none], [.int (0 : Int32), .ref x4], σ)) r180_2 rfl rfl <| Er.sT (c2 := (4, [some (.ref x0), some (.int x1), some (.long x2), none, some (.ref x4), none], [.ref x0, .int (0 : Int32), .ref x4], σ)) r180_3 rfl rfl <| Er.sT (c2 := (5, [some (.ref x0), some (.int x1), some (.long x2), none, some (.ref x4), none], [.int x1, .ref x0, .int (0 : Int32), .ref x4], σ)) r180_4 rfl rfl <| Er.sT (c2 := (6, [some (.ref x0), some (.int x1), some (.long x2), none, some (.ref x4), none], [.long x2, .int x1, .ref x0, .int (0 : Int32), .ref x4], σ)) r180_5 rfl rfl <| (Er.call (vs := [.ref x0, .int x1, .long x2]) (rest := [.int (0 : Int32), .ref x4]) r180_6 rfl rfl (Nat.le_of_ble_eq_true rfl) (Nat.le_of_ble_eq_true rfl) (fun _ => ⟨_, _, rfl, h1⟩) hy k)
theorem b180_0x1 {d c9 : Nat} {q : Rs} {x0 : Nat} {x1 : Int32} {x2 : Int64} {x4 : Nat} {σ : St} {σ2 : St} (h1 : x0 < 24 ∧ kls x0 = 4)
    (hy : Er d 74 (0, ent 74 [.ref x0, .int x1, .long x2], [], σ) (.inr 1, σ2, c9))
    (k : Er (d + 1) 180 (15, [some (.ref x0), some (.int x1), some (.long x2), none, some (.ref x4), none], [], σ2) q) :
    Er (d + 1) 180 (0, [some (.ref x0), some (.int x1), some (.long x2), none, some (.ref x4), none], [], σ) (q.1, q.2.1, c9 + q.2.2) := Er.sT (c2 := (2, [some (.ref x0), some (.int x1), some (.long x2), none, some (.ref x4), none], [.ref x4], σ)) r180_0 rfl rfl <| Er.sT (c2 := (3, [some (.ref x0), some (.int x1), some (.long x2), none, some (.ref x4), none], [.int (0 : Int32), .ref x4], σ)) r180_2 rfl rfl <| Er.sT (c2 := (4, [some (.ref x0), some (.int x1), some (.long x2), none, some (.ref x4), none], [.ref x0, .int (0 : Int32), .ref x4], σ)) r180_3 rfl rfl <| Er.sT (c2 := (5, [some (.ref x0), some (.int x1), some (.long x2), none, some (.ref x4), none], [.int x1, .ref x0, .int (0 : Int32), .ref x4], σ)) r180_4 rfl rfl <| Er.sT (c2 := (6, [some (.ref x0), some (.int x1), some (.long x2), none, some (.ref x4), none], [.long x2, .int x1, .ref x0, .int (0 : Int32), .ref x4], σ)) r180_5 rfl rfl <| (Er.callh (x := 1) (hp := 13) (vs := [.ref x0, .int x1, .long x2]) (rest := [.int (0 : Int32), .ref x4]) r180_6 rfl rfl (Nat.le_of_ble_eq_true rfl) (Nat.le_of_ble_eq_true rfl) (fun _ => ⟨_, _, rfl, h1⟩) (by decide) rfl rfl rfl rfl hy k)
theorem b180_9 {d : Nat} {q : Rs} {x0 : Nat} {x1 : Int32} {x2 : Int64} {x4 : Nat} {s0 : Nat} {s1 : Int32} {s2 : Int64} {σ : St} (h1 : isL s0 ∧ vp_in s1 (ale s0))
    (k : Er (d + 1) 180 (17, [some (.ref x0), some (.int x1), some (.long x2), none, some (.ref x4), none], [], (sal σ s0 s1.toNatClampNeg s2)) q) :
    Er (d + 1) 180 (9, [some (.ref x0), some (.int x1), some (.long x2), none, some (.ref x4), none], [.long s2, .int s1, .ref s0], σ) q := Er.st (P := (isL s0 ∧ vp_in s1 (ale s0))) (c2 := (10, [some (.ref x0), some (.int x1), some (.long x2), none, some (.ref x4), none], [], (sal σ s0 s1.toNatClampNeg s2))) r180_9 rfl rfl h1 <| Er.sT (c2 := (17, [some (.ref x0), some (.int x1), some (.long x2), none, some (.ref x4), none], [], (sal σ s0 s1.toNatClampNeg s2))) r180_10 rfl rfl <| k
theorem b180_15 {d : Nat} {x0 : Nat} {x1 : Int32} {x2 : Int64} {x4 : Nat} {σ : St}  :
    Er (d + 1) 180 (15, [some (.ref x0), some (.int x1), some (.long x2), none, some (.ref x4), none], [], σ) (.inl (some (.int (1 : Int32))), σ, 0) := Er.sT (c2 := (16, [some (.ref x0), some (.int x1), some (.long x2), none, some (.ref x4), none], [.int (1 : Int32)], σ)) r180_15 rfl rfl <| (Er.ret r180_16 rfl ⟨_, _, rfl, rfl, rfl, rfl⟩)
theorem b180_17 {d : Nat} {x0 : Nat} {x1 : Int32} {x2 : Int64} {x4 : Nat} {σ : St}  :
    Er (d + 1) 180 (17, [some (.ref x0), some (.int x1), some (.long x2), none, some (.ref x4), none], [], σ) (.inl (some (.int (0 : Int32))), σ, 0) := Er.sT (c2 := (18, [some (.ref x0), some (.int x1), some (.long x2), none, some (.ref x4), none], [.int (0 : Int32)], σ)) r180_17 rfl rfl <| (Er.ret r180_18 rfl ⟨_, _, rfl, rfl, rfl, rfl⟩)
