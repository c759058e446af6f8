/-! NumberModels.clear()I -/
theorem tab_37 : tab 37 = tb37_0 := rfl
theorem ch37_0 {j : Nat} {r : Row} (h : tb37_0[j]? = some r) : rowAt 37 r.1 = some r := row_mem 37 (by decide) (by rw [tab_37]; exact List.mem_of_getElem? h)
theorem r37_0 : rowAt 37 0 = some (r0 0 1 (.aload_n 0)) := ch37_0 (j := 0) rfl
theorem r37_1 : rowAt 37 1 = some (ra 1 4 (.getfield 54) 2 4 192) := ch37_0 (j := 1) rfl
theorem r37_4 : rowAt 37 4 = some (ra 4 5 (.istore_n 1) 1 0 0) := ch37_0 (j := 2) rfl
theorem r37_5 : rowAt 37 5 = some (r0 5 6 (.aload_n 0)) := ch37_0 (j := 3) rfl
theorem r37_6 : rowAt 37 6 = some (r0 6 7 (.iconst 0)) := ch37_0 (j := 4) rfl
theorem r37_7 : rowAt 37 7 = some (ra 7 10 (.putfield 54) 2 4 192) := ch37_0 (j := 5) rfl
theorem r37_10 : rowAt 37 10 = some (ra 10 11 (.iload_n 1) 1 0 0) := ch37_0 (j := 6) rfl
theorem r37_11 : rowAt 37 11 = some (r0 11 12 (.ireturn)) := ch37_0 (j := 7) rfl
theorem b37_0 {d : Nat} {x0 : Nat} {σ : St} (h1 : x0 < 24 ∧ kls x0 = 4) (h2 : x0 < 24 ∧ kls x0 = 4 ∧ ft 4 2 = 0) :
    Er (d + 1) 37 (0, [some (.ref x0), none], [], σ) (.inl (some (.int (gfi σ x0 2))), (sfi σ x0 2 (0 : Int32)), 0) := Er.sT (c2 := (1, [some (.ref x0), none], [.ref x0], σ)) r37_0 rfl rfl <| Er.st (P := (x0 < 24 ∧ kls x0 = 4)) (c2 := (4, [some (.ref x0), none], [.int (gfi σ x0 2)], σ)) r37_1 rfl rfl h1 <| Er.sT (c2 := (5, [some (.ref x0), some (.int (gfi σ x0 2))], [], σ)) r37_4 rfl rfl <| Er.sT (c2 := (6, [some (.ref x0), some (.int (gfi σ x0 2))], [.ref x0], σ)) r37_5 rfl rfl <| Er.sT (c2 := (7, [some (.ref x0), some (.int (gfi σ x0 2))], [.int (0 : Int32), .ref x0], σ)) r37_6 rfl rfl <| Er.st (P := (x0 < 24 ∧ kls x0 = 4 ∧ ft 4 2 = 0)) (c2 := (10, [some (.ref x0), some (.int (gfi σ x0 2))], [], (sfi σ x0 2 (0 : Int32)))) r37_7 rfl rfl h2 <| Er.sT (c2 := (11, [some (.ref x0), some (.int (gfi σ x0 2))], [.int (gfi σ x0 2)], (sfi σ x0 2 (0 : Int32)))) r37_10 rfl rfl <| (Er.ret r37_11 rfl ⟨_, _, rfl, rfl, rfl, rfl⟩)
/-! NumberModels.count()I -/
theorem tab_38 : tab 38 = tb38_0 := rfl
theorem ch38_0 {j : Nat} {r : Row} (h : tb38_0[j]? = some r) : rowAt 38 r.1 = some r := row_mem 38 (by decide) (by rw [tab_38]; exact List.mem_of_getElem? h)
theorem r38_0 : rowAt 38 0 = some (r0 0 1 (.aload_n 0)) := ch38_0 (j := 0) rfl
theorem r38_1 : rowAt 38 1 = some (ra 1 4 (.getfield 54) 2 4 192) := ch38_0 (j := 1) rfl
theorem r38_4 : rowAt 38 4 = some (r0 4 5 (.ireturn)) := ch38_0 (j := 2) rfl
theorem b38_0 {d : Nat} {x0 : Nat} {σ : St} (h1 : x0 < 24 ∧ kls x0 = 4) :
    Er (d + 1) 38 (0, [some (.ref x0)], [], σ) (.inl (some (.int (gfi σ x0 2))), σ, 0) := Er.sT (c2 := (1, [some (.ref x0)], [.ref x0], σ)) r38_0 rfl rfl <| Er.st (P := (x0 < 24 ∧ kls x0 = 4)) (c2 := (4, [some (.ref x0)], [.int (gfi σ x0 2)], σ)) r38_1 rfl rfl h1 <| (Er.ret r38_4 rfl ⟨_, _, rfl, rfl, rfl, rfl⟩)
/-! NumberModels.whole(J)I -/
theorem tab_39 : tab 39 = tb39_0 := rfl
theorem ch39_0 {j : Nat} {r : Row} (h : tb39_0[j]? = some r) : rowAt 39 r.1 = some r := row_mem 39 (by decide) (by rw [tab_39]; exact List.mem_of_getElem? h)
theorem r39_0 : rowAt 39 0 = some (r0 0 1 (.aload_n 0)) := ch39_0 (j := 0) rfl
theorem r39_1 : rowAt 39 1 = some (ra 1 4 (.getfield 27) 5 4 195) := ch39_0 (j := 1) rfl
theorem r39_4 : rowAt 39 4 = some (ra 4 5 (.lload_n 1) 1 0 0) := ch39_0 (j := 2) rfl
theorem r39_5 : rowAt 39 5 = some (r0 5 6 (.lconst 0)) := ch39_0 (j := 3) rfl
theorem r39_6 : rowAt 39 6 = some (ra 6 9 (.invokestatic 58) 40 2 237) := ch39_0 (j := 4) rfl
theorem r39_9 : rowAt 39 9 = some (ra 9 12 (.putfield 62) 2 3 126) := ch39_0 (j := 5) rfl
theorem r39_12 : rowAt 39 12 = some (r0 12 13 (.aload_n 0)) := ch39_0 (j := 6) rfl
theorem r39_13 : rowAt 39 13 = some (ra 13 16 (.getfield 27) 5 4 195) := ch39_0 (j := 7) rfl
theorem r39_16 : rowAt 39 16 = some (ra 16 19 (.getfield 65) 0 3 122) := ch39_0 (j := 8) rfl
theorem r39_19 : rowAt 39 19 = some (ra 19 20 (.lload_n 1) 1 0 0) := ch39_0 (j := 9) rfl
theorem r39_20 : rowAt 39 20 = some (ra 20 23 (.invokestatic 68) 41 1 240) := ch39_0 (j := 10) rfl
theorem r39_23 : rowAt 39 23 = some (ra 23 26 (.invokevirtual 72) 11 2 243) := ch39_0 (j := 11) rfl
theorem r39_26 : rowAt 39 26 = some (r0 26 27 (.aload_n 0)) := ch39_0 (j := 12) rfl
theorem r39_27 : rowAt 39 27 = some (ra 27 30 (.getfield 27) 5 4 195) := ch39_0 (j := 13) rfl
theorem r39_30 : rowAt 39 30 = some (ra 30 33 (.getfield 76) 1 3 124) := ch39_0 (j := 14) rfl
theorem r39_33 : rowAt 39 33 = some (33, 34, .lconst 1, 0, 0, 0, 0, 1) := ch39_0 (j := 15) rfl
theorem r39_34 : rowAt 39 34 = some (ra 34 37 (.invokevirtual 72) 11 2 243) := ch39_0 (j := 16) rfl
theorem r39_37 : rowAt 39 37 = some (r0 37 38 (.aload_n 0)) := ch39_0 (j := 17) rfl
theorem r39_38 : rowAt 39 38 = some (ra 38 41 (.invokevirtual 79) 42 1 256) := ch39_0 (j := 18) rfl
theorem r39_41 : rowAt 39 41 = some (r0 41 42 (.ireturn)) := ch39_0 (j := 19) rfl
theorem b39_0 {d : Nat} {q : Rs} {x0 : Nat} {x1 : Int64} {σ : St} {σ2 : St} {r : Int32} (h1 : x0 < 24 ∧ kls x0 = 4)
    (hy : Er d 40 (0, ent 40 [.long x1, .long (0 : Int64)], [], σ) (.inl (some (.int r)), σ2, 0))
    (k : Er (d + 1) 39 (9, [some (.ref x0), some (.long x1), none], [.int r, .ref (fr x0 5)], σ2) q) :
    Er (d + 1) 39 (0, [some (.ref x0), some (.long x1), none], [], σ) q := Er.sT (c2 := (1, [some (.ref x0), some (.long x1), none], [.ref x0], σ)) r39_0 rfl rfl <| Er.st (P := (x0 < 24 ∧ kls x0 = 4)) (c2 := (4, [some (.ref x0), some (.long x1), none], [.ref (fr x0 5)], σ)) r39_1 rfl rfl h1 <| Er.sT (c2 := (5, [some (.ref x0), some (.long x1), none], [.long x1, .ref (fr x0 5)], σ)) r39_4 rfl rfl <| Er.sT (c2 := (6, [some (.ref x0), some (.long x1), none], [.long (0 : Int64), .long x1, .ref (fr x0 5)], σ)) r39_5 rfl rfl <| (Er.call (vs := [.long x1, .long (0 : Int64)]) (rest := [.ref (fr x0 5)]) r39_6 rfl rfl (Nat.le_of_ble_eq_true rfl) (Nat.le_of_ble_eq_true rfl) (fun h => absurd h (by decide +kernel)) hy k)
theorem b39_9 {d : Nat} {q : Rs} {x0 : Nat} {x1 : Int64} {s0 : Nat} {s1 : Int32} {σ : St} {σ2 : St} {r : Int64} (h1 : s0 < 24 ∧ kls s0 = 3 ∧ ft 3 2 = 0) (h2 : x0 < 24 ∧ kls x0 = 4) (h3 : (fr x0 5) < 24 ∧ kls (fr x0 5) = 3)
    (hy : Er d 41 (0, ent 41 [.long x1], [], (sfi σ s0 2 s1)) (.inl (some (.long r)), σ2, 0))
    (k : Er (d + 1) 39 (23, [some (.ref x0), some (.long x1), none], [.long r, .ref (fr (fr x0 5) 0)], σ2) q) :
    Er (d + 1) 39 (9, [some (.ref x0), some (.long x1), none], [.int s1, .ref s0], σ) q := Er.st (P := (s0 < 24 ∧ kls s0 = 3 ∧ ft 3 2 = 0)) (c2 := (12, [some (.ref x0), some (.long x1), none], [], (sfi σ s0 2 s1))) r39_9 rfl rfl h1 <| Er.sT (c2 := (13, [some (.ref x0), some (.long x1), none], [.ref x0], (sfi σ s0 2 s1))) r39_12 rfl rfl <| Er.st (P := (x0 < 24 ∧ kls x0 = 4)) (c2 := (16, [some (.ref x0), some (.long x1), none], [.ref (fr x0 5)], (sfi σ s0 2 s1))) r39_13 rfl rfl h2 <| Er.st (P := ((fr x0 5) < 24 ∧ kls (fr x0 5) = 3)) (c2 := (19, [some (.ref x0), some (.long x1), none], [.ref (fr (fr x0 5) 0)], (sfi σ s0 2 s1))) r39_16 rfl rfl h3 <| Er.sT (c2 := (20, [some (.ref x0), some (.long x1), none], [.long x1, .ref (fr (fr x0 5) 0)], (sfi σ s0 2 s1))) r39_19 rfl rfl <| (Er.call (vs := [.long x1]) (rest := [.ref (fr (fr x0 5) 0)]) r39_20 rfl rfl (Nat.le_of_ble_eq_true rfl) (Nat.le_of_ble_eq_true rfl) (fun h => absurd h (by decide +kernel)) hy k)
theorem b39_23 {d : Nat} {q : Rs} {x0 : Nat} {x1 : Int64} {s0 : Nat} {s1 : Int64} {σ : St} {σ2 : St}  (h1 : s0 < 24 ∧ kls s0 = 2)
    (hy : Er d 11 (0, ent 11 [.ref s0, .long s1], [], σ) (.inl none, σ2, 0))
    (k : Er (d + 1) 39 (26, [some (.ref x0), some (.long x1), none], [], σ2) q) :
    Er (d + 1) 39 (23, [some (.ref x0), some (.long x1), none], [.long s1, .ref s0], σ) q := (Er.call (vs := [.ref s0, .long s1]) (rest := []) r39_23 rfl rfl (Nat.le_of_ble_eq_true rfl) (Nat.le_of_ble_eq_true rfl) (fun _ => ⟨_, _, rfl, h1⟩) hy k)
theorem b39_26 {d : Nat} {q : Rs} {x0 : Nat} {x1 : Int64} {σ : St} {σ2 : St}  (h1 : x0 < 24 ∧ kls x0 = 4) (h2 : (fr x0 5) < 24 ∧ kls (fr x0 5) = 3) (h3 : (fr (fr x0 5) 1) < 24 ∧ kls (fr (fr x0 5) 1) = 2)
    (hy : Er d 11 (0, ent 11 [.ref (fr (fr x0 5) 1), .long (1 : Int64)], [], σ) (.inl none, σ2, 0))
    (k : Er (d + 1) 39 (37, [some (.ref x0), some (.long x1), none], [], σ2) q) :
    Er (d + 1) 39 (26, [some (.ref x0), some (.long x1), none], [], σ) q := Er.sT (c2 := (27, [some (.ref x0), some (.long x1), none], [.ref x0], σ)) r39_26 rfl rfl <| Er.st (P := (x0 < 24 ∧ kls x0 = 4)) (c2 := (30, [some (.ref x0), some (.long x1), none], [.ref (fr x0 5)], σ)) r39_27 rfl rfl h1 <| Er.st (P := ((fr x0 5) < 24 ∧ kls (fr x0 5) = 3)) (c2 := (33, [some (.ref x0), some (.long x1), none], [.ref (fr (fr x0 5) 1)], σ)) r39_30 rfl rfl h2 <| Er.sT (c2 := (34, [some (.ref x0), some (.long x1), none], [.long (1 : Int64), .ref (fr (fr x0 5) 1)], σ)) r39_33 rfl rfl <| (Er.call (vs := [.ref (fr (fr x0 5) 1), .long (1 : Int64)]) (rest := []) r39_34 rfl rfl (Nat.le_of_ble_eq_true rfl) (Nat.le_of_ble_eq_true rfl) (fun _ => ⟨_, _, rfl, h3⟩) hy k)
theorem b39_37 {d : Nat} {q : Rs} {x0 : Nat} {x1 : Int64} {σ : St} {σ2 : St} {r : Int32} (h1 : x0 < 24 ∧ kls x0 = 4)
    (hy : Er d 42 (0, ent 42 [.ref x0], [], σ) (.inl (some (.int r)), σ2, 0))
    (k : Er (d + 1) 39 (41, [some (.ref x0), some (.long x1), none], [.int r], σ2) q) :
    Er (d + 1) 39 (37, [some (.ref x0), some (.long x1), none], [], σ) q := Er.sT (c2 := (38, [some (.ref x0), some (.long x1), none], [.ref x0], σ)) r39_37 rfl rfl <| (Er.call (vs := [.ref x0]) (rest := []) r39_38 rfl rfl (Nat.le_of_ble_eq_true rfl) (Nat.le_of_ble_eq_true rfl) (fun _ => ⟨_, _, rfl, h1⟩) hy k)
theorem b39_37x {d x c9 : Nat} {x0 : Nat} {x1 : Int64} {σ : St} {σ2 : St} (h1 : x0 < 24 ∧ kls x0 = 4) (hx : x < 4)
    (hy : Er d 42 (0, ent 42 [.ref x0], [], σ) (.inr x, σ2, c9)) :
    Er (d + 1) 39 (37, [some (.ref x0), some (.long x1), none], [], σ) (.inr x, σ2, c9) := Er.sT (c2 := (38, [some (.ref x0), some (.long x1), none], [.ref x0], σ)) r39_37 rfl rfl <| (Er.callx (vs := [.ref x0]) (rest := []) r39_38 rfl rfl (Nat.le_of_ble_eq_true rfl) (Nat.le_of_ble_eq_true rfl) (fun _ => ⟨_, _, rfl, h1⟩) hx rfl rfl hy)
theorem b39_41 {d : Nat} {x0 : Nat} {x1 : Int64} {s0 : Int32} {σ : St}  :
    Er (d + 1) 39 (41, [some (.ref x0), some (.long x1), none], [.int s0], σ) (.inl (some (.int s0)), σ, 0) := (Er.ret r39_41 rfl ⟨_, _, rfl, rfl, rfl, rfl⟩)
/-! NumberModels.compare(JJ)I -/
theorem tab_40 : tab 40 = tb40_0 := rfl
theorem ch40_0 {j : Nat} {r : Row} (h : tb40_0[j]? = some r) : rowAt 40 r.1 = some r := row_mem 40 (by decide) (by rw [tab_40]; exact List.mem_of_getElem? h)
theorem r40_0 : rowAt 40 0 = some (r0 0 1 (.lload_n 0)) := ch40_0 (j := 0) rfl
theorem r40_1 : rowAt 40 1 = some (ra 1 2 (.lload_n 2) 2 0 0) := ch40_0 (j := 1) rfl
theorem r40_2 : rowAt 40 2 = some (r0 2 3 (.lcmp)) := ch40_0 (j := 2) rfl
theorem r40_3 : rowAt 40 3 = some (ra 3 6 (.ifCond .ne 5) 8 0 0) := ch40_0 (j := 3) rfl
theorem r40_6 : rowAt 40 6 = some (r0 6 7 (.iconst 0)) := ch40_0 (j := 4) rfl
theorem r40_7 : rowAt 40 7 = some (r0 7 8 (.ireturn)) := ch40_0 (j := 5) rfl
theorem r40_8 : rowAt 40 8 = some (r0 8 9 (.lload_n 0)) := ch40_0 (j := 6) rfl
theorem r40_9 : rowAt 40 9 = some (ra 9 10 (.lload_n 2) 2 0 0) := ch40_0 (j := 7) rfl
theorem r40_10 : rowAt 40 10 = some (r0 10 11 (.lcmp)) := ch40_0 (j := 8) rfl
theorem r40_11 : rowAt 40 11 = some (ra 11 14 (.ifCond .ge 7) 18 0 0) := ch40_0 (j := 9) rfl
theorem r40_14 : rowAt 40 14 = some (14, 15, .iconst (-1), 0, 0, 0, (-1), 0) := ch40_0 (j := 10) rfl
theorem r40_15 : rowAt 40 15 = some (ra 15 18 (.goto 4) 19 0 0) := ch40_0 (j := 11) rfl
theorem r40_18 : rowAt 40 18 = some (18, 19, .iconst 1, 0, 0, 0, 1, 0) := ch40_0 (j := 12) rfl
theorem r40_19 : rowAt 40 19 = some (r0 19 20 (.ireturn)) := ch40_0 (j := 13) rfl
theorem b40_0 {d : Nat} {q : Rs} {x0 : Int64} {x2 : Int64} {σ : St} 
    (kt : ¬ x0 = x2 → Er (d + 1) 40 (8, [some (.long x0), none, some (.long x2), none], [], σ) q)
    (kf : x0 = x2 → Er (d + 1) 40 (6, [some (.long x0), none, some (.long x2), none], [], σ) q) :
    Er (d + 1) 40 (0, [some (.long x0), none, some (.long x2), none], [], σ) q := Er.sT (c2 := (1, [some (.long x0), none, some (.long x2), none], [.long x0], σ)) r40_0 rfl rfl <| Er.sT (c2 := (2, [some (.long x0), none, some (.long x2), none], [.long x2, .long x0], σ)) r40_1 rfl rfl <| Er.sT (c2 := (3, [some (.long x0), none, some (.long x2), none], [.int (lg_cmp x0 x2)], σ)) r40_2 rfl rfl <| Er.sT (c2 := (brn .ne (lg_cmp x0 x2) (0 : Int32) 8 6, [some (.long x0), none, some (.long x2), none], [], σ)) r40_3 rfl rfl <| (bl_ne kt kf)
theorem b40_6 {d : Nat} {x0 : Int64} {x2 : Int64} {σ : St}  :
    Er (d + 1) 40 (6, [some (.long x0), none, some (.long x2), none], [], σ) (.inl (some (.int (0 : Int32))), σ, 0) := Er.sT (c2 := (7, [some (.long x0), none, some (.long x2), none], [.int (0 : Int32)], σ)) r40_6 rfl rfl <| (Er.ret r40_7 rfl ⟨_, _, rfl, rfl, rfl, rfl⟩)
theorem b40_8 {d : Nat} {q : Rs} {x0 : Int64} {x2 : Int64} {σ : St} 
    (kt : ¬ x0 < x2 → Er (d + 1) 40 (18, [some (.long x0), none, some (.long x2), none], [], σ) q)
    (kf : x0 < x2 → Er (d + 1) 40 (14, [some (.long x0), none, some (.long x2), none], [], σ) q) :
    Er (d + 1) 40 (8, [some (.long x0), none, some (.long x2), none], [], σ) q := Er.sT (c2 := (9, [some (.long x0), none, some (.long x2), none], [.long x0], σ)) r40_8 rfl rfl <| Er.sT (c2 := (10, [some (.long x0), none, some (.long x2), none], [.long x2, .long x0], σ)) r40_9 rfl rfl <| Er.sT (c2 := (11, [some (.long x0), none, some (.long x2), none], [.int (lg_cmp x0 x2)], σ)) r40_10 rfl rfl <| Er.sT (c2 := (brn .ge (lg_cmp x0 x2) (0 : Int32) 18 14, [some (.long x0), none, some (.long x2), none], [], σ)) r40_11 rfl rfl <| (bl_ge kt kf)
theorem b40_14 {d : Nat} {q : Rs} {x0 : Int64} {x2 : Int64} {σ : St} 
    (k : Er (d + 1) 40 (19, [some (.long x0), none, some (.long x2), none], [.int (-1 : Int32)], σ) q) :
    Er (d + 1) 40 (14, [some (.long x0), none, some (.long x2), none], [], σ) q := Er.sT (c2 := (15, [some (.long x0), none, some (.long x2), none], [.int (-1 : Int32)], σ)) r40_14 rfl rfl <| Er.sT (c2 := (19, [some (.long x0), none, some (.long x2), none], [.int (-1 : Int32)], σ)) r40_15 rfl rfl <| k
theorem b40_18 {d : Nat} {q : Rs} {x0 : Int64} {x2 : Int64} {σ : St} 
    (k : Er (d + 1) 40 (19, [some (.long x0), none, some (.long x2), none], [.int (1 : Int32)], σ) q) :
    Er (d + 1) 40 (18, [some (.long x0), none, some (.long x2), none], [], σ) q := Er.sT (c2 := (19, [some (.long x0), none, some (.long x2), none], [.int (1 : Int32)], σ)) r40_18 rfl rfl <| k
theorem b40_19 {d : Nat} {x0 : Int64} {x2 : Int64} {s0 : Int32} {σ : St}  :
    Er (d + 1) 40 (19, [some (.long x0), none, some (.long x2), none], [.int s0], σ) (.inl (some (.int s0)), σ, 0) := (Er.ret r40_19 rfl ⟨_, _, rfl, rfl, rfl, rfl⟩)
/-! NumberModels.sizeOf(J)J -/
theorem tab_41 : tab 41 = tb41_0 := rfl
theorem ch41_0 {j : Nat} {r : Row} (h : tb41_0[j]? = some r) : rowAt 41 r.1 = some r := row_mem 41 (by decide) (by rw [tab_41]; exact List.mem_of_getElem? h)
theorem r41_0 : rowAt 41 0 = some (r0 0 1 (.lload_n 0)) := ch41_0 (j := 0) rfl
theorem r41_1 : rowAt 41 1 = some (r0 1 2 (.lconst 0)) := ch41_0 (j := 1) rfl
theorem r41_2 : rowAt 41 2 = some (r0 2 3 (.lcmp)) := ch41_0 (j := 2) rfl
theorem r41_3 : rowAt 41 3 = some (ra 3 6 (.ifCond .ge 8) 11 0 0) := ch41_0 (j := 3) rfl
theorem r41_6 : rowAt 41 6 = some (r0 6 7 (.lload_n 0)) := ch41_0 (j := 4) rfl
theorem r41_7 : rowAt 41 7 = some (r0 7 8 (.lneg)) := ch41_0 (j := 5) rfl
theorem r41_8 : rowAt 41 8 = some (ra 8 11 (.goto 4) 12 0 0) := ch41_0 (j := 6) rfl
theorem r41_11 : rowAt 41 11 = some (r0 11 12 (.lload_n 0)) := ch41_0 (j := 7) rfl
theorem r41_12 : rowAt 41 12 = some (r0 12 13 (.lreturn)) := ch41_0 (j := 8) rfl
theorem b41_0 {d : Nat} {q : Rs} {x0 : Int64} {σ : St} 
    (kt : ¬ x0 < (0 : Int64) → Er (d + 1) 41 (11, [some (.long x0), none], [], σ) q)
    (kf : x0 < (0 : Int64) → Er (d + 1) 41 (6, [some (.long x0), none], [], σ) q) :
    Er (d + 1) 41 (0, [some (.long x0), none], [], σ) q := Er.sT (c2 := (1, [some (.long x0), none], [.long x0], σ)) r41_0 rfl rfl <| Er.sT (c2 := (2, [some (.long x0), none], [.long (0 : Int64), .long x0], σ)) r41_1 rfl rfl <| Er.sT (c2 := (3, [some (.long x0), none], [.int (lg_cmp x0 (0 : Int64))], σ)) r41_2 rfl rfl <| Er.sT (c2 := (brn .ge (lg_cmp x0 (0 : Int64)) (0 : Int32) 11 6, [some (.long x0), none], [], σ)) r41_3 rfl rfl <| (bl_ge kt kf)
theorem b41_6 {d : Nat} {q : Rs} {x0 : Int64} {σ : St} 
    (k : Er (d + 1) 41 (12, [some (.long x0), none], [.long (-x0)], σ) q) :
    Er (d + 1) 41 (6, [some (.long x0), none], [], σ) q := Er.sT (c2 := (7, [some (.long x0), none], [.long x0], σ)) r41_6 rfl rfl <| Er.sT (c2 := (8, [some (.long x0), none], [.long (-x0)], σ)) r41_7 rfl rfl <| Er.sT (c2 := (12, [some (.long x0), none], [.long (-x0)], σ)) r41_8 rfl rfl <| k
theorem b41_11 {d : Nat} {q : Rs} {x0 : Int64} {σ : St} 
    (k : Er (d + 1) 41 (12, [some (.long x0), none], [.long x0], σ) q) :
    Er (d + 1) 41 (11, [some (.long x0), none], [], σ) q := Er.sT (c2 := (12, [some (.long x0), none], [.long x0], σ)) r41_11 rfl rfl <| k
theorem b41_12 {d : Nat} {x0 : Int64} {s0 : Int64} {σ : St}  :
    Er (d + 1) 41 (12, [some (.long x0), none], [.long s0], σ) (.inl (some (.long s0)), σ, 0) := (Er.ret r41_12 rfl ⟨_, rfl, rfl, rfl⟩)
/-! NumberModels.keep()I -/
theorem tab_42 : tab 42 = tb42_0 := rfl
theorem ch42_0 {j : Nat} {r : Row} (h : tb42_0[j]? = some r) : rowAt 42 r.1 = some r := row_mem 42 (by decide) (by rw [tab_42]; exact List.mem_of_getElem? h)
theorem r42_0 : rowAt 42 0 = some (r0 0 1 (.aload_n 0)) := ch42_0 (j := 0) rfl
theorem r42_1 : rowAt 42 1 = some (ra 1 4 (.getfield 54) 2 4 192) := ch42_0 (j := 1) rfl
theorem r42_4 : rowAt 42 4 = some (4, 6, .bipush 60, 0, 0, 0, 60, 0) := ch42_0 (j := 2) rfl
theorem r42_6 : rowAt 42 6 = some (ra 6 9 (.if_icmp .lt 13) 19 0 0) := ch42_0 (j := 3) rfl
theorem r42_9 : rowAt 42 9 = some (ra 9 12 (.new 240) 3 1 260) := ch42_0 (j := 4) rfl
theorem r42_19 : rowAt 42 19 = some (r0 19 20 (.aload_n 0)) := ch42_0 (j := 5) rfl
theorem r42_20 : rowAt 42 20 = some (r0 20 21 (.aload_n 0)) := ch42_0 (j := 6) rfl
theorem r42_21 : rowAt 42 21 = some (ra 21 24 (.getfield 27) 5 4 195) := ch42_0 (j := 7) rfl
theorem r42_24 : rowAt 42 24 = some (ra 24 27 (.getfield 65) 0 3 122) := ch42_0 (j := 8) rfl
theorem r42_27 : rowAt 42 27 = some (ra 27 30 (.invokevirtual 251) 43 2 329) := ch42_0 (j := 9) rfl
theorem r42_30 : rowAt 42 30 = some (r0 30 31 (.aload_n 0)) := ch42_0 (j := 10) rfl
theorem r42_31 : rowAt 42 31 = some (r0 31 32 (.aload_n 0)) := ch42_0 (j := 11) rfl
theorem r42_32 : rowAt 42 32 = some (ra 32 35 (.getfield 27) 5 4 195) := ch42_0 (j := 12) rfl
theorem r42_35 : rowAt 42 35 = some (ra 35 38 (.getfield 76) 1 3 124) := ch42_0 (j := 13) rfl
theorem r42_38 : rowAt 42 38 = some (ra 38 41 (.invokevirtual 251) 43 2 329) := ch42_0 (j := 14) rfl
theorem r42_41 : rowAt 42 41 = some (r0 41 42 (.aload_n 0)) := ch42_0 (j := 15) rfl
theorem r42_42 : rowAt 42 42 = some (ra 42 45 (.getfield 13) 1 4 191) := ch42_0 (j := 16) rfl
theorem r42_45 : rowAt 42 45 = some (r0 45 46 (.aload_n 0)) := ch42_0 (j := 17) rfl
theorem r42_46 : rowAt 42 46 = some (ra 46 49 (.getfield 54) 2 4 192) := ch42_0 (j := 18) rfl
theorem r42_49 : rowAt 42 49 = some (r0 49 50 (.aload_n 0)) := ch42_0 (j := 19) rfl
theorem r42_50 : rowAt 42 50 = some (ra 50 53 (.getfield 27) 5 4 195) := ch42_0 (j := 20) rfl
theorem r42_53 : rowAt 42 53 = some (ra 53 56 (.getfield 62) 2 3 126) := ch42_0 (j := 21) rfl
theorem r42_56 : rowAt 42 56 = some (r0 56 57 (.iastore)) := ch42_0 (j := 22) rfl
theorem r42_57 : rowAt 42 57 = some (r0 57 58 (.aload_n 0)) := ch42_0 (j := 23) rfl
theorem r42_58 : rowAt 42 58 = some (ra 58 61 (.getfield 27) 5 4 195) := ch42_0 (j := 24) rfl
theorem r42_61 : rowAt 42 61 = some (ra 61 64 (.getfield 65) 0 3 122) := ch42_0 (j := 25) rfl
theorem r42_64 : rowAt 42 64 = some (r0 64 65 (.aload_n 0)) := ch42_0 (j := 26) rfl
theorem r42_65 : rowAt 42 65 = some (ra 65 68 (.getfield 9) 0 4 190) := ch42_0 (j := 27) rfl
theorem r42_68 : rowAt 42 68 = some (r0 68 69 (.aload_n 0)) := ch42_0 (j := 28) rfl
theorem r42_69 : rowAt 42 69 = some (ra 69 72 (.getfield 54) 2 4 192) := ch42_0 (j := 29) rfl
theorem r42_72 : rowAt 42 72 = some (72, 74, .bipush 16, 0, 0, 0, 16, 0) := ch42_0 (j := 30) rfl
theorem r42_74 : rowAt 42 74 = some (r0 74 75 (.imul)) := ch42_0 (j := 31) rfl
theorem r42_75 : rowAt 42 75 = some (ra 75 78 (.invokevirtual 255) 16 3 345) := ch42_0 (j := 32) rfl
theorem r42_78 : rowAt 42 78 = some (r0 78 79 (.aload_n 0)) := ch42_0 (j := 33) rfl
theorem r42_79 : rowAt 42 79 = some (ra 79 82 (.getfield 27) 5 4 195) := ch42_0 (j := 34) rfl
theorem r42_82 : rowAt 42 82 = some (ra 82 85 (.getfield 76) 1 3 124) := ch42_0 (j := 35) rfl
theorem r42_85 : rowAt 42 85 = some (r0 85 86 (.aload_n 0)) := ch42_0 (j := 36) rfl
theorem r42_86 : rowAt 42 86 = some (ra 86 89 (.getfield 9) 0 4 190) := ch42_0 (j := 37) rfl
theorem r42_89 : rowAt 42 89 = some (r0 89 90 (.aload_n 0)) := ch42_0 (j := 38) rfl
theorem r42_90 : rowAt 42 90 = some (ra 90 93 (.getfield 54) 2 4 192) := ch42_0 (j := 39) rfl
theorem r42_93 : rowAt 42 93 = some (93, 95, .bipush 16, 0, 0, 0, 16, 0) := ch42_0 (j := 40) rfl
theorem r42_95 : rowAt 42 95 = some (r0 95 96 (.imul)) := ch42_0 (j := 41) rfl
theorem r42_96 : rowAt 42 96 = some (96, 98, .bipush 8, 0, 0, 0, 8, 0) := ch42_0 (j := 42) rfl
theorem r42_98 : rowAt 42 98 = some (r0 98 99 (.iadd)) := ch42_0 (j := 43) rfl
theorem r42_99 : rowAt 42 99 = some (ra 99 102 (.invokevirtual 255) 16 3 345) := ch42_0 (j := 44) rfl
theorem r42_102 : rowAt 42 102 = some (r0 102 103 (.aload_n 0)) := ch42_0 (j := 45) rfl
theorem r42_103 : rowAt 42 103 = some (r0 103 104 (.dup)) := ch42_0 (j := 46) rfl
theorem r42_104 : rowAt 42 104 = some (ra 104 107 (.getfield 54) 2 4 192) := ch42_0 (j := 47) rfl
theorem r42_107 : rowAt 42 107 = some (107, 108, .iconst 1, 0, 0, 0, 1, 0) := ch42_0 (j := 48) rfl
theorem r42_108 : rowAt 42 108 = some (r0 108 109 (.iadd)) := ch42_0 (j := 49) rfl
theorem r42_109 : rowAt 42 109 = some (ra 109 112 (.putfield 54) 2 4 192) := ch42_0 (j := 50) rfl
theorem r42_112 : rowAt 42 112 = some (r0 112 113 (.aload_n 0)) := ch42_0 (j := 51) rfl
theorem r42_113 : rowAt 42 113 = some (ra 113 116 (.getfield 54) 2 4 192) := ch42_0 (j := 52) rfl
theorem r42_116 : rowAt 42 116 = some (116, 117, .iconst 1, 0, 0, 0, 1, 0) := ch42_0 (j := 53) rfl
theorem r42_117 : rowAt 42 117 = some (r0 117 118 (.isub)) := ch42_0 (j := 54) rfl
theorem r42_118 : rowAt 42 118 = some (r0 118 119 (.ireturn)) := ch42_0 (j := 55) rfl
theorem b42_0 {d : Nat} {q : Rs} {x0 : Nat} {σ : St} (h1 : x0 < 24 ∧ kls x0 = 4)
    (kt : (gfi σ x0 2) < (60 : Int32) → Er (d + 1) 42 (19, [some (.ref x0)], [], σ) q)
    (kf : ¬ (gfi σ x0 2) < (60 : Int32) → Er (d + 1) 42 (9, [some (.ref x0)], [], σ) q) :
    Er (d + 1) 42 (0, [some (.ref x0)], [], σ) q := Er.sT (c2 := (1, [some (.ref x0)], [.ref x0], σ)) r42_0 rfl rfl <| Er.st (P := (x0 < 24 ∧ kls x0 = 4)) (c2 := (4, [some (.ref x0)], [.int (gfi σ x0 2)], σ)) r42_1 rfl rfl h1 <| Er.sT (c2 := (6, [some (.ref x0)], [.int (60 : Int32), .int (gfi σ x0 2)], σ)) r42_4 rfl rfl <| Er.sT (c2 := (brn .lt (gfi σ x0 2) (60 : Int32) 19 9, [some (.ref x0)], [], σ)) r42_6 rfl rfl <| (br_lt kt kf)
theorem b42_9 {d : Nat} {x0 : Nat} {σ : St}  :
    Er (d + 6) 42 (9, [some (.ref x0)], [], σ) (.inr 3, σ, 1) := (Er.thr r42_9 rfl rfl)
theorem b42_19 {d : Nat} {q : Rs} {x0 : Nat} {σ : St} {σ2 : St}  (h1 : x0 < 24 ∧ kls x0 = 4) (h2 : (fr x0 5) < 24 ∧ kls (fr x0 5) = 3)
    (hy : Er d 43 (0, ent 43 [.ref x0, .ref (fr (fr x0 5) 0)], [], σ) (.inl none, σ2, 0))
    (k : Er (d + 1) 42 (30, [some (.ref x0)], [], σ2) q) :
    Er (d + 1) 42 (19, [some (.ref x0)], [], σ) q := Er.sT (c2 := (20, [some (.ref x0)], [.ref x0], σ)) r42_19 rfl rfl <| Er.sT (c2 := (21, [some (.ref x0)], [.ref x0, .ref x0], σ)) r42_20 rfl rfl <| Er.st (P := (x0 < 24 ∧ kls x0 = 4)) (c2 := (24, [some (.ref x0)], [.ref (fr x0 5), .ref x0], σ)) r42_21 rfl rfl h1 <| Er.st (P := ((fr x0 5) < 24 ∧ kls (fr x0 5) = 3)) (c2 := (27, [some (.ref x0)], [.ref (fr (fr x0 5) 0), .ref x0], σ)) r42_24 rfl rfl h2 <| (Er.call (vs := [.ref x0, .ref (fr (fr x0 5) 0)]) (rest := []) r42_27 rfl rfl (Nat.le_of_ble_eq_true rfl) (Nat.le_of_ble_eq_true rfl) (fun _ => ⟨_, _, rfl, h1⟩) hy k)
theorem b42_19x {d x c9 : Nat} {x0 : Nat} {σ : St} {σ2 : St} (h1 : x0 < 24 ∧ kls x0 = 4) (h2 : (fr x0 5) < 24 ∧ kls (fr x0 5) = 3) (hx : x < 4)
    (hy : Er d 43 (0, ent 43 [.ref x0, .ref (fr (fr x0 5) 0)], [], σ) (.inr x, σ2, c9)) :
    Er (d + 1) 42 (19, [some (.ref x0)], [], σ) (.inr x, σ2, c9) := Er.sT (c2 := (20, [some (.ref x0)], [.ref x0], σ)) r42_19 rfl rfl <| Er.sT (c2 := (21, [some (.ref x0)], [.ref x0, .ref x0], σ)) r42_20 rfl rfl <| Er.st (P := (x0 < 24 ∧ kls x0 = 4)) (c2 := (24, [some (.ref x0)], [.ref (fr x0 5), .ref x0], σ)) r42_21 rfl rfl h1 <| Er.st (P := ((fr x0 5) < 24 ∧ kls (fr x0 5) = 3)) (c2 := (27, [some (.ref x0)], [.ref (fr (fr x0 5) 0), .ref x0], σ)) r42_24 rfl rfl h2 <| (Er.callx (vs := [.ref x0, .ref (fr (fr x0 5) 0)]) (rest := []) r42_27 rfl rfl (Nat.le_of_ble_eq_true rfl) (Nat.le_of_ble_eq_true rfl) (fun _ => ⟨_, _, rfl, h1⟩) hx rfl rfl hy)
theorem b42_30 {d : Nat} {q : Rs} {x0 : Nat} {σ : St} {σ2 : St}  (h1 : x0 < 24 ∧ kls x0 = 4) (h2 : (fr x0 5) < 24 ∧ kls (fr x0 5) = 3)
    (hy : Er d 43 (0, ent 43 [.ref x0, .ref (fr (fr x0 5) 1)], [], σ) (.inl none, σ2, 0))
    (k : Er (d + 1) 42 (41, [some (.ref x0)], [], σ2) q) :
    Er (d + 1) 42 (30, [some (.ref x0)], [], σ) q := Er.sT (c2 := (31, [some (.ref x0)], [.ref x0], σ)) r42_30 rfl rfl <| Er.sT (c2 := (32, [some (.ref x0)], [.ref x0, .ref x0], σ)) r42_31 rfl rfl <| Er.st (P := (x0 < 24 ∧ kls x0 = 4)) (c2 := (35, [some (.ref x0)], [.ref (fr x0 5), .ref x0], σ)) r42_32 rfl rfl h1 <| Er.st (P := ((fr x0 5) < 24 ∧ kls (fr x0 5) = 3)) (c2 := (38, [some (.ref x0)], [.ref (fr (fr x0 5) 1), .ref x0], σ)) r42_35 rfl rfl h2 <| (Er.call (vs := [.ref x0, .ref (fr (fr x0 5) 1)]) (rest := []) r42_38 rfl rfl (Nat.le_of_ble_eq_true rfl) (Nat.le_of_ble_eq_true rfl) (fun _ => ⟨_, _, rfl, h1⟩) hy k)
theorem b42_30x {d x c9 : Nat} {x0 : Nat} {σ : St} {σ2 : St} (h1 : x0 < 24 ∧ kls x0 = 4) (h2 : (fr x0 5) < 24 ∧ kls (fr x0 5) = 3) (hx : x < 4)
    (hy : Er d 43 (0, ent 43 [.ref x0, .ref (fr (fr x0 5) 1)], [], σ) (.inr x, σ2, c9)) :
    Er (d + 1) 42 (30, [some (.ref x0)], [], σ) (.inr x, σ2, c9) := Er.sT (c2 := (31, [some (.ref x0)], [.ref x0], σ)) r42_30 rfl rfl <| Er.sT (c2 := (32, [some (.ref x0)], [.ref x0, .ref x0], σ)) r42_31 rfl rfl <| Er.st (P := (x0 < 24 ∧ kls x0 = 4)) (c2 := (35, [some (.ref x0)], [.ref (fr x0 5), .ref x0], σ)) r42_32 rfl rfl h1 <| Er.st (P := ((fr x0 5) < 24 ∧ kls (fr x0 5) = 3)) (c2 := (38, [some (.ref x0)], [.ref (fr (fr x0 5) 1), .ref x0], σ)) r42_35 rfl rfl h2 <| (Er.callx (vs := [.ref x0, .ref (fr (fr x0 5) 1)]) (rest := []) r42_38 rfl rfl (Nat.le_of_ble_eq_true rfl) (Nat.le_of_ble_eq_true rfl) (fun _ => ⟨_, _, rfl, h1⟩) hx rfl rfl hy)
theorem b42_41 {d : Nat} {q : Rs} {x0 : Nat} {σ : St} {σ2 : St}  (h1 : x0 < 24 ∧ kls x0 = 4) (h2 : (fr x0 5) < 24 ∧ kls (fr x0 5) = 3) (h3 : ((fr x0 1) = 41 ∨ (fr x0 1) = 42) ∧ vp_in (gfi σ x0 2) (ale (fr x0 1))) (h4 : (fr (fr x0 5) 0) < 24 ∧ kls (fr (fr x0 5) 0) = 2)
    (hy : Er d 16 (0, ent 16 [.ref (fr (fr x0 5) 0), .ref (fr x0 0), .int ((gfi (sai σ (fr x0 1) (gfi σ x0 2).toNatClampNeg (gfi σ (fr x0 5) 2)) x0 2) * (16 : Int32))], [], (sai σ (fr x0 1) (gfi σ x0 2).toNatClampNeg (gfi σ (fr x0 5) 2))) (.inl none, σ2, 0))
    (k : Er (d + 1) 42 (78, [some (.ref x0)], [], σ2) q) :
    Er (d + 1) 42 (41, [some (.ref x0)], [], σ) q := Er.sT (c2 := (42, [some (.ref x0)], [.ref x0], σ)) r42_41 rfl rfl <| Er.st (P := (x0 < 24 ∧ kls x0 = 4)) (c2 := (45, [some (.ref x0)], [.ref (fr x0 1)], σ)) r42_42 rfl rfl h1 <| Er.sT (c2 := (46, [some (.ref x0)], [.ref x0, .ref (fr x0 1)], σ)) r42_45 rfl rfl <| Er.st (P := (x0 < 24 ∧ kls x0 = 4)) (c2 := (49, [some (.ref x0)], [.int (gfi σ x0 2), .ref (fr x0 1)], σ)) r42_46 rfl rfl h1 <| Er.sT (c2 := (50, [some (.ref x0)], [.ref x0, .int (gfi σ x0 2), .ref (fr x0 1)], σ)) r42_49 rfl rfl <| Er.st (P := (x0 < 24 ∧ kls x0 = 4)) (c2 := (53, [some (.ref x0)], [.ref (fr x0 5), .int (gfi σ x0 2), .ref (fr x0 1)], σ)) r42_50 rfl rfl h1 <| Er.st (P := ((fr x0 5) < 24 ∧ kls (fr x0 5) = 3)) (c2 := (56, [some (.ref x0)], [.int (gfi σ (fr x0 5) 2), .int (gfi σ x0 2), .ref (fr x0 1)], σ)) r42_53 rfl rfl h2 <| Er.st (P := (((fr x0 1) = 41 ∨ (fr x0 1) = 42) ∧ vp_in (gfi σ x0 2) (ale (fr x0 1)))) (c2 := (57, [some (.ref x0)], [], (sai σ (fr x0 1) (gfi σ x0 2).toNatClampNeg (gfi σ (fr x0 5) 2)))) r42_56 rfl rfl h3 <| Er.sT (c2 := (58, [some (.ref x0)], [.ref x0], (sai σ (fr x0 1) (gfi σ x0 2).toNatClampNeg (gfi σ (fr x0 5) 2)))) r42_57 rfl rfl <| Er.st (P := (x0 < 24 ∧ kls x0 = 4)) (c2 := (61, [some (.ref x0)], [.ref (fr x0 5)], (sai σ (fr x0 1) (gfi σ x0 2).toNatClampNeg (gfi σ (fr x0 5) 2)))) r42_58 rfl rfl h1 <| Er.st (P := ((fr x0 5) < 24 ∧ kls (fr x0 5) = 3)) (c2 := (64, [some (.ref x0)], [.ref (fr (fr x0 5) 0)], (sai σ (fr x0 1) (gfi σ x0 2).toNatClampNeg (gfi σ (fr x0 5) 2)))) r42_61 rfl rfl h2 <| Er.sT (c2 := (65, [some (.ref x0)], [.ref x0, .ref (fr (fr x0 5) 0)], (sai σ (fr x0 1) (gfi σ x0 2).toNatClampNeg (gfi σ (fr x0 5) 2)))) r42_64 rfl rfl <| Er.st (P := (x0 < 24 ∧ kls x0 = 4)) (c2 := (68, [some (.ref x0)], [.ref (fr x0 0), .ref (fr (fr x0 5) 0)], (sai σ (fr x0 1) (gfi σ x0 2).toNatClampNeg (gfi σ (fr x0 5) 2)))) r42_65 rfl rfl h1 <| Er.sT (c2 := (69, [some (.ref x0)], [.ref x0, .ref (fr x0 0), .ref (fr (fr x0 5) 0)], (sai σ (fr x0 1) (gfi σ x0 2).toNatClampNeg (gfi σ (fr x0 5) 2)))) r42_68 rfl rfl <| Er.st (P := (x0 < 24 ∧ kls x0 = 4)) (c2 := (72, [some (.ref x0)], [.int (gfi (sai σ (fr x0 1) (gfi σ x0 2).toNatClampNeg (gfi σ (fr x0 5) 2)) x0 2), .ref (fr x0 0), .ref (fr (fr x0 5) 0)], (sai σ (fr x0 1) (gfi σ x0 2).toNatClampNeg (gfi σ (fr x0 5) 2)))) r42_69 rfl rfl h1 <| Er.sT (c2 := (74, [some (.ref x0)], [.int (16 : Int32), .int (gfi (sai σ (fr x0 1) (gfi σ x0 2).toNatClampNeg (gfi σ (fr x0 5) 2)) x0 2), .ref (fr x0 0), .ref (fr (fr x0 5) 0)], (sai σ (fr x0 1) (gfi σ x0 2).toNatClampNeg (gfi σ (fr x0 5) 2)))) r42_72 rfl rfl <| Er.sT (c2 := (75, [some (.ref x0)], [.int ((gfi (sai σ (fr x0 1) (gfi σ x0 2).toNatClampNeg (gfi σ (fr x0 5) 2)) x0 2) * (16 : Int32)), .ref (fr x0 0), .ref (fr (fr x0 5) 0)], (sai σ (fr x0 1) (gfi σ x0 2).toNatClampNeg (gfi σ (fr x0 5) 2)))) r42_74 rfl rfl <| (Er.call (vs := [.ref (fr (fr x0 5) 0), .ref (fr x0 0), .int ((gfi (sai σ (fr x0 1) (gfi σ x0 2).toNatClampNeg (gfi σ (fr x0 5) 2)) x0 2) * (16 : Int32))]) (rest := []) r42_75 rfl rfl (Nat.le_of_ble_eq_true rfl) (Nat.le_of_ble_eq_true rfl) (fun _ => ⟨_, _, rfl, h4⟩) hy k)
theorem b42_78 {d : Nat} {q : Rs} {x0 : Nat} {σ : St} {σ2 : St}  (h1 : x0 < 24 ∧ kls x0 = 4) (h2 : (fr x0 5) < 24 ∧ kls (fr x0 5) = 3) (h3 : (fr (fr x0 5) 1) < 24 ∧ kls (fr (fr x0 5) 1) = 2)
    (hy : Er d 16 (0, ent 16 [.ref (fr (fr x0 5) 1), .ref (fr x0 0), .int (((gfi σ x0 2) * (16 : Int32)) + (8 : Int32))], [], σ) (.inl none, σ2, 0))
    (k : Er (d + 1) 42 (102, [some (.ref x0)], [], σ2) q) :
    Er (d + 1) 42 (78, [some (.ref x0)], [], σ) q := Er.sT (c2 := (79, [some (.ref x0)], [.ref x0], σ)) r42_78 rfl rfl <| Er.st (P := (x0 < 24 ∧ kls x0 = 4)) (c2 := (82, [some (.ref x0)], [.ref (fr x0 5)], σ)) r42_79 rfl rfl h1 <| Er.st (P := ((fr x0 5) < 24 ∧ kls (fr x0 5) = 3)) (c2 := (85, [some (.ref x0)], [.ref (fr (fr x0 5) 1)], σ)) r42_82 rfl rfl h2 <| Er.sT (c2 := (86, [some (.ref x0)], [.ref x0, .ref (fr (fr x0 5) 1)], σ)) r42_85 rfl rfl <| Er.st (P := (x0 < 24 ∧ kls x0 = 4)) (c2 := (89, [some (.ref x0)], [.ref (fr x0 0), .ref (fr (fr x0 5) 1)], σ)) r42_86 rfl rfl h1 <| Er.sT (c2 := (90, [some (.ref x0)], [.ref x0, .ref (fr x0 0), .ref (fr (fr x0 5) 1)], σ)) r42_89 rfl rfl <| Er.st (P := (x0 < 24 ∧ kls x0 = 4)) (c2 := (93, [some (.ref x0)], [.int (gfi σ x0 2), .ref (fr x0 0), .ref (fr (fr x0 5) 1)], σ)) r42_90 rfl rfl h1 <| Er.sT (c2 := (95, [some (.ref x0)], [.int (16 : Int32), .int (gfi σ x0 2), .ref (fr x0 0), .ref (fr (fr x0 5) 1)], σ)) r42_93 rfl rfl <| Er.sT (c2 := (96, [some (.ref x0)], [.int ((gfi σ x0 2) * (16 : Int32)), .ref (fr x0 0), .ref (fr (fr x0 5) 1)], σ)) r42_95 rfl rfl <| Er.sT (c2 := (98, [some (.ref x0)], [.int (8 : Int32), .int ((gfi σ x0 2) * (16 : Int32)), .ref (fr x0 0), .ref (fr (fr x0 5) 1)], σ)) r42_96 rfl rfl <| Er.sT (c2 := (99, [some (.ref x0)], [.int (((gfi σ x0 2) * (16 : Int32)) + (8 : Int32)), .ref (fr x0 0), .ref (fr (fr x0 5) 1)], σ)) r42_98 rfl rfl <| (Er.call (vs := [.ref (fr (fr x0 5) 1), .ref (fr x0 0), .int (((gfi σ x0 2) * (16 : Int32)) + (8 : Int32))]) (rest := []) r42_99 rfl rfl (Nat.le_of_ble_eq_true rfl) (Nat.le_of_ble_eq_true rfl) (fun _ => ⟨_, _, rfl, h3⟩) hy k)
theorem b42_102 {d : Nat} {x0 : Nat} {σ : St} (h1 : x0 < 24 ∧ kls x0 = 4) (h2 : x0 < 24 ∧ kls x0 = 4 ∧ ft 4 2 = 0) :
    Er (d + 1) 42 (102, [some (.ref x0)], [], σ) (.inl (some (.int ((gfi (sfi σ x0 2 ((gfi σ x0 2) + (1 : Int32))) x0 2) - (1 : Int32)))), (sfi σ x0 2 ((gfi σ x0 2) + (1 : Int32))), 0) := Er.sT (c2 := (103, [some (.ref x0)], [.ref x0], σ)) r42_102 rfl rfl <| Er.sT (c2 := (104, [some (.ref x0)], [.ref x0, .ref x0], σ)) r42_103 rfl rfl <| Er.st (P := (x0 < 24 ∧ kls x0 = 4)) (c2 := (107, [some (.ref x0)], [.int (gfi σ x0 2), .ref x0], σ)) r42_104 rfl rfl h1 <| Er.sT (c2 := (108, [some (.ref x0)], [.int (1 : Int32), .int (gfi σ x0 2), .ref x0], σ)) r42_107 rfl rfl <| Er.sT (c2 := (109, [some (.ref x0)], [.int ((gfi σ x0 2) + (1 : Int32)), .ref x0], σ)) r42_108 rfl rfl <| Er.st (P := (x0 < 24 ∧ kls x0 = 4 ∧ ft 4 2 = 0)) (c2 := (112, [some (.ref x0)], [], (sfi σ x0 2 ((gfi σ x0 2) + (1 : Int32))))) r42_109 rfl rfl h2 <| Er.sT (c2 := (113, [some (.ref x0)], [.ref x0], (sfi σ x0 2 ((gfi σ x0 2) + (1 : Int32))))) r42_112 rfl rfl <| Er.st (P := (x0 < 24 ∧ kls x0 = 4)) (c2 := (116, [some (.ref x0)], [.int (gfi (sfi σ x0 2 ((gfi σ x0 2) + (1 : Int32))) x0 2)], (sfi σ x0 2 ((gfi σ x0 2) + (1 : Int32))))) r42_113 rfl rfl h1 <| Er.sT (c2 := (117, [some (.ref x0)], [.int (1 : Int32), .int (gfi (sfi σ x0 2 ((gfi σ x0 2) + (1 : Int32))) x0 2)], (sfi σ x0 2 ((gfi σ x0 2) + (1 : Int32))))) r42_116 rfl rfl <| Er.sT (c2 := (118, [some (.ref x0)], [.int ((gfi (sfi σ x0 2 ((gfi σ x0 2) + (1 : Int32))) x0 2) - (1 : Int32))], (sfi σ x0 2 ((gfi σ x0 2) + (1 : Int32))))) r42_117 rfl rfl <| (Er.ret r42_118 rfl ⟨_, _, rfl, rfl, rfl, rfl⟩)
/-! NumberModels.needBits(LNumberModels$Natural;)V -/
theorem tab_43 : tab 43 = tb43_0 := rfl
theorem ch43_0 {j : Nat} {r : Row} (h : tb43_0[j]? = some r) : rowAt 43 r.1 = some r := row_mem 43 (by decide) (by rw [tab_43]; exact List.mem_of_getElem? h)
theorem r43_0 : rowAt 43 0 = some (ra 0 1 (.aload_n 1) 1 0 0) := ch43_0 (j := 0) rfl
theorem r43_1 : rowAt 43 1 = some (ra 1 4 (.invokevirtual 144) 14 1 333) := ch43_0 (j := 1) rfl
theorem r43_4 : rowAt 43 4 = some (4, 7, .sipush 256, 0, 0, 0, 256, 0) := ch43_0 (j := 2) rfl
theorem r43_7 : rowAt 43 7 = some (ra 7 10 (.if_icmp .le 13) 20 0 0) := ch43_0 (j := 3) rfl
theorem r43_10 : rowAt 43 10 = some (ra 10 13 (.new 240) 3 2 260) := ch43_0 (j := 4) rfl
theorem r43_20 : rowAt 43 20 = some (r0 20 21 (.return_)) := ch43_0 (j := 5) rfl
theorem b43_0 {d : Nat} {q : Rs} {x0 : Nat} {x1 : Nat} {σ : St} {σ2 : St} {r : Int32} (h1 : x1 < 24 ∧ kls x1 = 2)
    (hy : Er d 14 (0, ent 14 [.ref x1], [], σ) (.inl (some (.int r)), σ2, 0))
    (k : Er (d + 1) 43 (4, [some (.ref x0), some (.ref x1)], [.int r], σ2) q) :
    Er (d + 1) 43 (0, [some (.ref x0), some (.ref x1)], [], σ) q := Er.sT (c2 := (1, [some (.ref x0), some (.ref x1)], [.ref x1], σ)) r43_0 rfl rfl <| (Er.call (vs := [.ref x1]) (rest := []) r43_1 rfl rfl (Nat.le_of_ble_eq_true rfl) (Nat.le_of_ble_eq_true rfl) (fun _ => ⟨_, _, rfl, h1⟩) hy k)
theorem b43_4 {d : Nat} {q : Rs} {x0 : Nat} {x1 : Nat} {s0 : Int32} {σ : St} 
    (kt : s0 ≤ (256 : Int32) → Er (d + 1) 43 (20, [some (.ref x0), some (.ref x1)], [], σ) q)
    (kf : ¬ s0 ≤ (256 : Int32) → Er (d + 1) 43 (10, [some (.ref x0), some (.ref x1)], [], σ) q) :
    Er (d + 1) 43 (4, [some (.ref x0), some (.ref x1)], [.int s0], σ) q := Er.sT (c2 := (7, [some (.ref x0), some (.ref x1)], [.int (256 : Int32), .int s0], σ)) r43_4 rfl rfl <| Er.sT (c2 := (brn .le s0 (256 : Int32) 20 10, [some (.ref x0), some (.ref x1)], [], σ)) r43_7 rfl rfl <| (br_le kt kf)
theorem b43_10 {d : Nat} {x0 : Nat} {x1 : Nat} {σ : St}  :
    Er (d + 6) 43 (10, [some (.ref x0), some (.ref x1)], [], σ) (.inr 3, σ, 1) := (Er.thr r43_10 rfl rfl)
theorem b43_20 {d : Nat} {x0 : Nat} {x1 : Nat} {σ : St}  :
    Er (d + 1) 43 (20, [some (.ref x0), some (.ref x1)], [], σ) (.inl none, σ, 0) := (Er.ret r43_20 rfl ⟨rfl, rfl, rfl⟩)
/-! NumberModels.lengthOf(J)I -/
theorem tab_44 : tab 44 = tb44_0 := rfl
theorem ch44_0 {j : Nat} {r : Row} (h : tb44_0[j]? = some r) : rowAt 44 r.1 = some r := row_mem 44 (by decide) (by rw [tab_44]; exact List.mem_of_getElem? h)
theorem r44_0 : rowAt 44 0 = some (r0 0 1 (.iconst 0)) := ch44_0 (j := 0) rfl
theorem r44_1 : rowAt 44 1 = some (ra 1 2 (.istore_n 2) 2 0 0) := ch44_0 (j := 1) rfl
theorem r44_2 : rowAt 44 2 = some (r0 2 3 (.lload_n 0)) := ch44_0 (j := 2) rfl
theorem r44_3 : rowAt 44 3 = some (ra 3 4 (.lstore_n 3) 3 0 0) := ch44_0 (j := 3) rfl
theorem r44_4 : rowAt 44 4 = some (4, 6, .bipush 32, 0, 0, 0, 32, 0) := ch44_0 (j := 4) rfl
theorem r44_6 : rowAt 44 6 = some (ra 6 8 (.istore 5) 5 0 0) := ch44_0 (j := 5) rfl
theorem r44_8 : rowAt 44 8 = some (ra 8 10 (.iload 5) 5 0 0) := ch44_0 (j := 6) rfl
theorem r44_10 : rowAt 44 10 = some (ra 10 13 (.ifCond .le 31) 41 0 0) := ch44_0 (j := 7) rfl
theorem r44_13 : rowAt 44 13 = some (ra 13 14 (.lload_n 3) 3 0 0) := ch44_0 (j := 8) rfl
theorem r44_14 : rowAt 44 14 = some (ra 14 16 (.iload 5) 5 0 0) := ch44_0 (j := 9) rfl
theorem r44_16 : rowAt 44 16 = some (r0 16 17 (.lushr)) := ch44_0 (j := 10) rfl
theorem r44_17 : rowAt 44 17 = some (r0 17 18 (.lconst 0)) := ch44_0 (j := 11) rfl
theorem r44_18 : rowAt 44 18 = some (r0 18 19 (.lcmp)) := ch44_0 (j := 12) rfl
theorem r44_19 : rowAt 44 19 = some (ra 19 22 (.ifCond .eq 13) 32 0 0) := ch44_0 (j := 13) rfl
theorem r44_22 : rowAt 44 22 = some (ra 22 23 (.lload_n 3) 3 0 0) := ch44_0 (j := 14) rfl
theorem r44_23 : rowAt 44 23 = some (ra 23 25 (.iload 5) 5 0 0) := ch44_0 (j := 15) rfl
theorem r44_25 : rowAt 44 25 = some (r0 25 26 (.lushr)) := ch44_0 (j := 16) rfl
theorem r44_26 : rowAt 44 26 = some (ra 26 27 (.lstore_n 3) 3 0 0) := ch44_0 (j := 17) rfl
theorem r44_27 : rowAt 44 27 = some (ra 27 28 (.iload_n 2) 2 0 0) := ch44_0 (j := 18) rfl
theorem r44_28 : rowAt 44 28 = some (ra 28 30 (.iload 5) 5 0 0) := ch44_0 (j := 19) rfl
theorem r44_30 : rowAt 44 30 = some (r0 30 31 (.iadd)) := ch44_0 (j := 20) rfl
theorem r44_31 : rowAt 44 31 = some (ra 31 32 (.istore_n 2) 2 0 0) := ch44_0 (j := 21) rfl
theorem r44_32 : rowAt 44 32 = some (ra 32 34 (.iload 5) 5 0 0) := ch44_0 (j := 22) rfl
theorem r44_34 : rowAt 44 34 = some (34, 35, .iconst 2, 0, 0, 0, 2, 0) := ch44_0 (j := 23) rfl
theorem r44_35 : rowAt 44 35 = some (r0 35 36 (.idiv)) := ch44_0 (j := 24) rfl
theorem r44_36 : rowAt 44 36 = some (ra 36 38 (.istore 5) 5 0 0) := ch44_0 (j := 25) rfl
theorem r44_38 : rowAt 44 38 = some (ra 38 41 (.goto (-30)) 8 0 0) := ch44_0 (j := 26) rfl
theorem r44_41 : rowAt 44 41 = some (ra 41 42 (.iload_n 2) 2 0 0) := ch44_0 (j := 27) rfl
theorem r44_42 : rowAt 44 42 = some (ra 42 43 (.lload_n 3) 3 0 0) := ch44_0 (j := 28) rfl
theorem r44_43 : rowAt 44 43 = some (r0 43 44 (.l2i)) := ch44_0 (j := 29) rfl
theorem r44_44 : rowAt 44 44 = some (r0 44 45 (.iadd)) := ch44_0 (j := 30) rfl
theorem r44_45 : rowAt 44 45 = some (r0 45 46 (.ireturn)) := ch44_0 (j := 31) rfl
theorem b44_0 {d : Nat} {q : Rs} {x0 : Int64} {σ : St} 
    (k : Er (d + 1) 44 (8, [some (.long x0), none, some (.int (0 : Int32)), some (.long x0), none, some (.int (32 : Int32))], [], σ) q) :
    Er (d + 1) 44 (0, [some (.long x0), none, none, none, none, none], [], σ) q := Er.sT (c2 := (1, [some (.long x0), none, none, none, none, none], [.int (0 : Int32)], σ)) r44_0 rfl rfl <| Er.sT (c2 := (2, [some (.long x0), none, some (.int (0 : Int32)), none, none, none], [], σ)) r44_1 rfl rfl <| Er.sT (c2 := (3, [some (.long x0), none, some (.int (0 : Int32)), none, none, none], [.long x0], σ)) r44_2 rfl rfl <| Er.sT (c2 := (4, [some (.long x0), none, some (.int (0 : Int32)), some (.long x0), none, none], [], σ)) r44_3 rfl rfl <| Er.sT (c2 := (6, [some (.long x0), none, some (.int (0 : Int32)), some (.long x0), none, none], [.int (32 : Int32)], σ)) r44_4 rfl rfl <| Er.sT (c2 := (8, [some (.long x0), none, some (.int (0 : Int32)), some (.long x0), none, some (.int (32 : Int32))], [], σ)) r44_6 rfl rfl <| k
theorem b44_8 {d : Nat} {q : Rs} {x0 : Int64} {x2 : Int32} {x3 : Int64} {x5 : Int32} {σ : St} 
    (kt : x5 ≤ (0 : Int32) → Er (d + 1) 44 (41, [some (.long x0), none, some (.int x2), some (.long x3), none, some (.int x5)], [], σ) q)
    (kf : ¬ x5 ≤ (0 : Int32) → Er (d + 1) 44 (13, [some (.long x0), none, some (.int x2), some (.long x3), none, some (.int x5)], [], σ) q) :
    Er (d + 1) 44 (8, [some (.long x0), none, some (.int x2), some (.long x3), none, some (.int x5)], [], σ) q := Er.sT (c2 := (10, [some (.long x0), none, some (.int x2), some (.long x3), none, some (.int x5)], [.int x5], σ)) r44_8 rfl rfl <| Er.sT (c2 := (brn .le x5 (0 : Int32) 41 13, [some (.long x0), none, some (.int x2), some (.long x3), none, some (.int x5)], [], σ)) r44_10 rfl rfl <| (br_le kt kf)
theorem b44_13 {d : Nat} {q : Rs} {x0 : Int64} {x2 : Int32} {x3 : Int64} {x5 : Int32} {σ : St} 
    (kt : ((x3.toUInt64 >>> (x5.toInt64.toUInt64 &&& Int64.toUInt64 63)).toInt64) = (0 : Int64) → Er (d + 1) 44 (32, [some (.long x0), none, some (.int x2), some (.long x3), none, some (.int x5)], [], σ) q)
    (kf : ¬ ((x3.toUInt64 >>> (x5.toInt64.toUInt64 &&& Int64.toUInt64 63)).toInt64) = (0 : Int64) → Er (d + 1) 44 (22, [some (.long x0), none, some (.int x2), some (.long x3), none, some (.int x5)], [], σ) q) :
    Er (d + 1) 44 (13, [some (.long x0), none, some (.int x2), some (.long x3), none, some (.int x5)], [], σ) q := Er.sT (c2 := (14, [some (.long x0), none, some (.int x2), some (.long x3), none, some (.int x5)], [.long x3], σ)) r44_13 rfl rfl <| Er.sT (c2 := (16, [some (.long x0), none, some (.int x2), some (.long x3), none, some (.int x5)], [.int x5, .long x3], σ)) r44_14 rfl rfl <| Er.sT (c2 := (17, [some (.long x0), none, some (.int x2), some (.long x3), none, some (.int x5)], [.long ((x3.toUInt64 >>> (x5.toInt64.toUInt64 &&& Int64.toUInt64 63)).toInt64)], σ)) r44_16 rfl rfl <| Er.sT (c2 := (18, [some (.long x0), none, some (.int x2), some (.long x3), none, some (.int x5)], [.long (0 : Int64), .long ((x3.toUInt64 >>> (x5.toInt64.toUInt64 &&& Int64.toUInt64 63)).toInt64)], σ)) r44_17 rfl rfl <| Er.sT (c2 := (19, [some (.long x0), none, some (.int x2), some (.long x3), none, some (.int x5)], [.int (lg_cmp ((x3.toUInt64 >>> (x5.toInt64.toUInt64 &&& Int64.toUInt64 63)).toInt64) (0 : Int64))], σ)) r44_18 rfl rfl <| Er.sT (c2 := (brn .eq (lg_cmp ((x3.toUInt64 >>> (x5.toInt64.toUInt64 &&& Int64.toUInt64 63)).toInt64) (0 : Int64)) (0 : Int32) 32 22, [some (.long x0), none, some (.int x2), some (.long x3), none, some (.int x5)], [], σ)) r44_19 rfl rfl <| (bl_eq kt kf)
theorem b44_22 {d : Nat} {q : Rs} {x0 : Int64} {x2 : Int32} {x3 : Int64} {x5 : Int32} {σ : St} 
    (k : Er (d + 1) 44 (32, [some (.long x0), none, some (.int (x2 + x5)), some (.long ((x3.toUInt64 >>> (x5.toInt64.toUInt64 &&& Int64.toUInt64 63)).toInt64)), none, some (.int x5)], [], σ) q) :
    Er (d + 1) 44 (22, [some (.long x0), none, some (.int x2), some (.long x3), none, some (.int x5)], [], σ) q := Er.sT (c2 := (23, [some (.long x0), none, some (.int x2), some (.long x3), none, some (.int x5)], [.long x3], σ)) r44_22 rfl rfl <| Er.sT (c2 := (25, [some (.long x0), none, some (.int x2), some (.long x3), none, some (.int x5)], [.int x5, .long x3], σ)) r44_23 rfl rfl <| Er.sT (c2 := (26, [some (.long x0), none, some (.int x2), some (.long x3), none, some (.int x5)], [.long ((x3.toUInt64 >>> (x5.toInt64.toUInt64 &&& Int64.toUInt64 63)).toInt64)], σ)) r44_25 rfl rfl <| Er.sT (c2 := (27, [some (.long x0), none, some (.int x2), some (.long ((x3.toUInt64 >>> (x5.toInt64.toUInt64 &&& Int64.toUInt64 63)).toInt64)), none, some (.int x5)], [], σ)) r44_26 rfl rfl <| Er.sT (c2 := (28, [some (.long x0), none, some (.int x2), some (.long ((x3.toUInt64 >>> (x5.toInt64.toUInt64 &&& Int64.toUInt64 63)).toInt64)), none, some (.int x5)], [.int x2], σ)) r44_27 rfl rfl <| Er.sT (c2 := (30, [some (.long x0), none, some (.int x2), some (.long ((x3.toUInt64 >>> (x5.toInt64.toUInt64 &&& Int64.toUInt64 63)).toInt64)), none, some (.int x5)], [.int x5, .int x2], σ)) r44_28 rfl rfl <| Er.sT (c2 := (31, [some (.long x0), none, some (.int x2), some (.long ((x3.toUInt64 >>> (x5.toInt64.toUInt64 &&& Int64.toUInt64 63)).toInt64)), none, some (.int x5)], [.int (x2 + x5)], σ)) r44_30 rfl rfl <| Er.sT (c2 := (32, [some (.long x0), none, some (.int (x2 + x5)), some (.long ((x3.toUInt64 >>> (x5.toInt64.toUInt64 &&& Int64.toUInt64 63)).toInt64)), none, some (.int x5)], [], σ)) r44_31 rfl rfl <| k
theorem b44_32 {d : Nat} {q : Rs} {x0 : Int64} {x2 : Int32} {x3 : Int64} {x5 : Int32} {σ : St} (h1 : ¬ (2 : Int32) = 0)
    (k : Er (d + 1) 44 (8, [some (.long x0), none, some (.int x2), some (.long x3), none, some (.int (x5 / (2 : Int32)))], [], σ) q) :
    Er (d + 1) 44 (32, [some (.long x0), none, some (.int x2), some (.long x3), none, some (.int x5)], [], σ) q := Er.sT (c2 := (34, [some (.long x0), none, some (.int x2), some (.long x3), none, some (.int x5)], [.int x5], σ)) r44_32 rfl rfl <| Er.sT (c2 := (35, [some (.long x0), none, some (.int x2), some (.long x3), none, some (.int x5)], [.int (2 : Int32), .int x5], σ)) r44_34 rfl rfl <| Er.st (P := (¬ (2 : Int32) = 0)) (c2 := (36, [some (.long x0), none, some (.int x2), some (.long x3), none, some (.int x5)], [.int (x5 / (2 : Int32))], σ)) r44_35 rfl rfl h1 <| Er.sT (c2 := (38, [some (.long x0), none, some (.int x2), some (.long x3), none, some (.int (x5 / (2 : Int32)))], [], σ)) r44_36 rfl rfl <| Er.sT (c2 := (8, [some (.long x0), none, some (.int x2), some (.long x3), none, some (.int (x5 / (2 : Int32)))], [], σ)) r44_38 rfl rfl <| k
theorem b44_41 {d : Nat} {x0 : Int64} {x2 : Int32} {x3 : Int64} {x5 : Int32} {σ : St}  :
    Er (d + 1) 44 (41, [some (.long x0), none, some (.int x2), some (.long x3), none, some (.int x5)], [], σ) (.inl (some (.int (x2 + (x3.toInt32)))), σ, 0) := Er.sT (c2 := (42, [some (.long x0), none, some (.int x2), some (.long x3), none, some (.int x5)], [.int x2], σ)) r44_41 rfl rfl <| Er.sT (c2 := (43, [some (.long x0), none, some (.int x2), some (.long x3), none, some (.int x5)], [.long x3, .int x2], σ)) r44_42 rfl rfl <| Er.sT (c2 := (44, [some (.long x0), none, some (.int x2), some (.long x3), none, some (.int x5)], [.int (x3.toInt32), .int x2], σ)) r44_43 rfl rfl <| Er.sT (c2 := (45, [some (.long x0), none, some (.int x2), some (.long x3), none, some (.int x5)], [.int (x2 + (x3.toInt32))], σ)) r44_44 rfl rfl <| (Er.ret r44_45 rfl ⟨_, _, rfl, rfl, rfl, rfl⟩)
/-! NumberModels.fraction(JJ)I -/
theorem tab_45 : tab 45 = tb45_0 := rfl
theorem ch45_0 {j : Nat} {r : Row} (h : tb45_0[j]? = some r) : rowAt 45 r.1 = some r := row_mem 45 (by decide) (by rw [tab_45]; exact List.mem_of_getElem? h)
theorem r45_0 : rowAt 45 0 = some (ra 0 1 (.lload_n 3) 3 0 0) := ch45_0 (j := 0) rfl
theorem r45_1 : rowAt 45 1 = some (r0 1 2 (.lconst 0)) := ch45_0 (j := 1) rfl
theorem r45_2 : rowAt 45 2 = some (r0 2 3 (.lcmp)) := ch45_0 (j := 2) rfl
theorem r45_3 : rowAt 45 3 = some (ra 3 6 (.ifCond .ne 13) 16 0 0) := ch45_0 (j := 3) rfl
theorem r45_6 : rowAt 45 6 = some (ra 6 9 (.new 83) 2 3 357) := ch45_0 (j := 4) rfl
theorem r45_16 : rowAt 45 16 = some (r0 16 17 (.aload_n 0)) := ch45_0 (j := 5) rfl
theorem r45_17 : rowAt 45 17 = some (ra 17 20 (.getfield 27) 5 4 195) := ch45_0 (j := 6) rfl
theorem r45_20 : rowAt 45 20 = some (ra 20 21 (.lload_n 1) 1 0 0) := ch45_0 (j := 7) rfl
theorem r45_21 : rowAt 45 21 = some (r0 21 22 (.lconst 0)) := ch45_0 (j := 8) rfl
theorem r45_22 : rowAt 45 22 = some (ra 22 25 (.invokestatic 58) 40 2 237) := ch45_0 (j := 9) rfl
theorem r45_25 : rowAt 45 25 = some (ra 25 26 (.lload_n 3) 3 0 0) := ch45_0 (j := 10) rfl
theorem r45_26 : rowAt 45 26 = some (r0 26 27 (.lconst 0)) := ch45_0 (j := 11) rfl
theorem r45_27 : rowAt 45 27 = some (ra 27 30 (.invokestatic 58) 40 2 237) := ch45_0 (j := 12) rfl
theorem r45_30 : rowAt 45 30 = some (r0 30 31 (.imul)) := ch45_0 (j := 13) rfl
theorem r45_31 : rowAt 45 31 = some (ra 31 34 (.putfield 62) 2 3 126) := ch45_0 (j := 14) rfl
theorem r45_34 : rowAt 45 34 = some (r0 34 35 (.aload_n 0)) := ch45_0 (j := 15) rfl
theorem r45_35 : rowAt 45 35 = some (ra 35 38 (.getfield 27) 5 4 195) := ch45_0 (j := 16) rfl
theorem r45_38 : rowAt 45 38 = some (ra 38 41 (.getfield 65) 0 3 122) := ch45_0 (j := 17) rfl
theorem r45_41 : rowAt 45 41 = some (ra 41 42 (.lload_n 1) 1 0 0) := ch45_0 (j := 18) rfl
theorem r45_42 : rowAt 45 42 = some (ra 42 45 (.invokestatic 68) 41 1 240) := ch45_0 (j := 19) rfl
theorem r45_45 : rowAt 45 45 = some (ra 45 48 (.invokevirtual 72) 11 2 243) := ch45_0 (j := 20) rfl
theorem r45_48 : rowAt 45 48 = some (r0 48 49 (.aload_n 0)) := ch45_0 (j := 21) rfl
theorem r45_49 : rowAt 45 49 = some (ra 49 52 (.getfield 27) 5 4 195) := ch45_0 (j := 22) rfl
theorem r45_52 : rowAt 45 52 = some (ra 52 55 (.getfield 76) 1 3 124) := ch45_0 (j := 23) rfl
theorem r45_55 : rowAt 45 55 = some (ra 55 56 (.lload_n 3) 3 0 0) := ch45_0 (j := 24) rfl
theorem r45_56 : rowAt 45 56 = some (ra 56 59 (.invokestatic 68) 41 1 240) := ch45_0 (j := 25) rfl
theorem r45_59 : rowAt 45 59 = some (ra 59 62 (.invokevirtual 72) 11 2 243) := ch45_0 (j := 26) rfl
theorem r45_62 : rowAt 45 62 = some (r0 62 63 (.aload_n 0)) := ch45_0 (j := 27) rfl
theorem r45_63 : rowAt 45 63 = some (ra 63 66 (.invokevirtual 90) 46 1 373) := ch45_0 (j := 28) rfl
theorem r45_66 : rowAt 45 66 = some (r0 66 67 (.aload_n 0)) := ch45_0 (j := 29) rfl
theorem r45_67 : rowAt 45 67 = some (ra 67 70 (.invokevirtual 79) 42 1 256) := ch45_0 (j := 30) rfl
theorem r45_70 : rowAt 45 70 = some (r0 70 71 (.ireturn)) := ch45_0 (j := 31) rfl
theorem b45_0 {d : Nat} {q : Rs} {x0 : Nat} {x1 : Int64} {x3 : Int64} {σ : St} 
    (kt : ¬ x3 = (0 : Int64) → Er (d + 1) 45 (16, [some (.ref x0), some (.long x1), none, some (.long x3), none], [], σ) q)
    (kf : x3 = (0 : Int64) → Er (d + 1) 45 (6, [some (.ref x0), some (.long x1), none, some (.long x3), none], [], σ) q) :
    Er (d + 1) 45 (0, [some (.ref x0), some (.long x1), none, some (.long x3), none], [], σ) q := Er.sT (c2 := (1, [some (.ref x0), some (.long x1), none, some (.long x3), none], [.long x3], σ)) r45_0 rfl rfl <| Er.sT (c2 := (2, [some (.ref x0), some (.long x1), none, some (.long x3), none], [.long (0 : Int64), .long x3], σ)) r45_1 rfl rfl <| Er.sT (c2 := (3, [some (.ref x0), some (.long x1), none, some (.long x3), none], [.int (lg_cmp x3 (0 : Int64))], σ)) r45_2 rfl rfl <| Er.sT (c2 := (brn .ne (lg_cmp x3 (0 : Int64)) (0 : Int32) 16 6, [some (.ref x0), some (.long x1), none, some (.long x3), none], [], σ)) r45_3 rfl rfl <| (bl_ne kt kf)
theorem b45_6 {d : Nat} {x0 : Nat} {x1 : Int64} {x3 : Int64} {σ : St}  :
    Er (d + 6) 45 (6, [some (.ref x0), some (.long x1), none, some (.long x3), none], [], σ) (.inr 2, σ, 1) := (Er.thr r45_6 rfl rfl)
theorem b45_16 {d : Nat} {q : Rs} {x0 : Nat} {x1 : Int64} {x3 : Int64} {σ : St} {σ2 : St} {r : Int32} (h1 : x0 < 24 ∧ kls x0 = 4)
    (hy : Er d 40 (0, ent 40 [.long x1, .long (0 : Int64)], [], σ) (.inl (some (.int r)), σ2, 0))
    (k : Er (d + 1) 45 (25, [some (.ref x0), some (.long x1), none, some (.long x3), none], [.int r, .ref (fr x0 5)], σ2) q) :
    Er (d + 1) 45 (16, [some (.ref x0), some (.long x1), none, some (.long x3), none], [], σ) q := Er.sT (c2 := (17, [some (.ref x0), some (.long x1), none, some (.long x3), none], [.ref x0], σ)) r45_16 rfl rfl <| Er.st (P := (x0 < 24 ∧ kls x0 = 4)) (c2 := (20, [some (.ref x0), some (.long x1), none, some (.long x3), none], [.ref (fr x0 5)], σ)) r45_17 rfl rfl h1 <| Er.sT (c2 := (21, [some (.ref x0), some (.long x1), none, some (.long x3), none], [.long x1, .ref (fr x0 5)], σ)) r45_20 rfl rfl <| Er.sT (c2 := (22, [some (.ref x0), some (.long x1), none, some (.long x3), none], [.long (0 : Int64), .long x1, .ref (fr x0 5)], σ)) r45_21 rfl rfl <| (Er.call (vs := [.long x1, .long (0 : Int64)]) (rest := [.ref (fr x0 5)]) r45_22 rfl rfl (Nat.le_of_ble_eq_true rfl) (Nat.le_of_ble_eq_true rfl) (fun h => absurd h (by decide +kernel)) hy k)
theorem b45_25 {d : Nat} {q : Rs} {x0 : Nat} {x1 : Int64} {x3 : Int64} {s0 : Nat} {s1 : Int32} {σ : St} {σ2 : St} {r : Int32} 
    (hy : Er d 40 (0, ent 40 [.long x3, .long (0 : Int64)], [], σ) (.inl (some (.int r)), σ2, 0))
    (k : Er (d + 1) 45 (30, [some (.ref x0), some (.long x1), none, some (.long x3), none], [.int r, .int s1, .ref s0], σ2) q) :
    Er (d + 1) 45 (25, [some (.ref x0), some (.long x1), none, some (.long x3), none], [.int s1, .ref s0], σ) q := Er.sT (c2 := (26, [some (.ref x0), some (.long x1), none, some (.long x3), none], [.long x3, .int s1, .ref s0], σ)) r45_25 rfl rfl <| Er.sT (c2 := (27, [some (.ref x0), some (.long x1), none, some (.long x3), none], [.long (0 : Int64), .long x3, .int s1, .ref s0], σ)) r45_26 rfl rfl <| (Er.call (vs := [.long x3, .long (0 : Int64)]) (rest := [.int s1, .ref s0]) r45_27 rfl rfl (Nat.le_of_ble_eq_true rfl) (Nat.le_of_ble_eq_true rfl) (fun h => absurd h (by decide +kernel)) hy k)
theorem b45_30 {d : Nat} {q : Rs} {x0 : Nat} {x1 : Int64} {x3 : Int64} {s0 : Nat} {s1 : Int32} {s2 : Int32} {σ : St} {σ2 : St} {r : Int64} (h1 : s0 < 24 ∧ kls s0 = 3 ∧ ft 3 2 = 0) (h2 : x0 < 24 ∧ kls x0 = 4) (h3 : (fr x0 5) < 24 ∧ kls (fr x0 5) = 3)
    (hy : Er d 41 (0, ent 41 [.long x1], [], (sfi σ s0 2 (s1 * s2))) (.inl (some (.long r)), σ2, 0))
    (k : Er (d + 1) 45 (45, [some (.ref x0), some (.long x1), none, some (.long x3), none], [.long r, .ref (fr (fr x0 5) 0)], σ2) q) :
    Er (d + 1) 45 (30, [some (.ref x0), some (.long x1), none, some (.long x3), none], [.int s2, .int s1, .ref s0], σ) q := Er.sT (c2 := (31, [some (.ref x0), some (.long x1), none, some (.long x3), none], [.int (s1 * s2), .ref s0], σ)) r45_30 rfl rfl <| Er.st (P := (s0 < 24 ∧ kls s0 = 3 ∧ ft 3 2 = 0)) (c2 := (34, [some (.ref x0), some (.long x1), none, some (.long x3), none], [], (sfi σ s0 2 (s1 * s2)))) r45_31 rfl rfl h1 <| Er.sT (c2 := (35, [some (.ref x0), some (.long x1), none, some (.long x3), none], [.ref x0], (sfi σ s0 2 (s1 * s2)))) r45_34 rfl rfl <| Er.st (P := (x0 < 24 ∧ kls x0 = 4)) (c2 := (38, [some (.ref x0), some (.long x1), none, some (.long x3), none], [.ref (fr x0 5)], (sfi σ s0 2 (s1 * s2)))) r45_35 rfl rfl h2 <| Er.st (P := ((fr x0 5) < 24 ∧ kls (fr x0 5) = 3)) (c2 := (41, [some (.ref x0), some (.long x1), none, some (.long x3), none], [.ref (fr (fr x0 5) 0)], (sfi σ s0 2 (s1 * s2)))) r45_38 rfl rfl h3 <| Er.sT (c2 := (42, [some (.ref x0), some (.long x1), none, some (.long x3), none], [.long x1, .ref (fr (fr x0 5) 0)], (sfi σ s0 2 (s1 * s2)))) r45_41 rfl rfl <| (Er.call (vs := [.long x1]) (rest := [.ref (fr (fr x0 5) 0)]) r45_42 rfl rfl (Nat.le_of_ble_eq_true rfl) (Nat.le_of_ble_eq_true rfl) (fun h => absurd h (by decide +kernel)) hy k)
theorem b45_45 {d : Nat} {q : Rs} {x0 : Nat} {x1 : Int64} {x3 : Int64} {s0 : Nat} {s1 : Int64} {σ : St} {σ2 : St}  (h1 : s0 < 24 ∧ kls s0 = 2)
    (hy : Er d 11 (0, ent 11 [.ref s0, .long s1], [], σ) (.inl none, σ2, 0))
    (k : Er (d + 1) 45 (48, [some (.ref x0), some (.long x1), none, some (.long x3), none], [], σ2) q) :
    Er (d + 1) 45 (45, [some (.ref x0), some (.long x1), none, some (.long x3), none], [.long s1, .ref s0], σ) q := (Er.call (vs := [.ref s0, .long s1]) (rest := []) r45_45 rfl rfl (Nat.le_of_ble_eq_true rfl) (Nat.le_of_ble_eq_true rfl) (fun _ => ⟨_, _, rfl, h1⟩) hy k)
theorem b45_48 {d : Nat} {q : Rs} {x0 : Nat} {x1 : Int64} {x3 : Int64} {σ : St} {σ2 : St} {r : Int64} (h1 : x0 < 24 ∧ kls x0 = 4) (h2 : (fr x0 5) < 24 ∧ kls (fr x0 5) = 3)
    (hy : Er d 41 (0, ent 41 [.long x3], [], σ) (.inl (some (.long r)), σ2, 0))
    (k : Er (d + 1) 45 (59, [some (.ref x0), some (.long x1), none, some (.long x3), none], [.long r, .ref (fr (fr x0 5) 1)], σ2) q) :
    Er (d + 1) 45 (48, [some (.ref x0), some (.long x1), none, some (.long x3), none], [], σ) q := Er.sT (c2 := (49, [some (.ref x0), some (.long x1), none, some (.long x3), none], [.ref x0], σ)) r45_48 rfl rfl <| Er.st (P := (x0 < 24 ∧ kls x0 = 4)) (c2 := (52, [some (.ref x0), some (.long x1), none, some (.long x3), none], [.ref (fr x0 5)], σ)) r45_49 rfl rfl h1 <| Er.st (P := ((fr x0 5) < 24 ∧ kls (fr x0 5) = 3)) (c2 := (55, [some (.ref x0), some (.long x1), none, some (.long x3), none], [.ref (fr (fr x0 5) 1)], σ)) r45_52 rfl rfl h2 <| Er.sT (c2 := (56, [some (.ref x0), some (.long x1), none, some (.long x3), none], [.long x3, .ref (fr (fr x0 5) 1)], σ)) r45_55 rfl rfl <| (Er.call (vs := [.long x3]) (rest := [.ref (fr (fr x0 5) 1)]) r45_56 rfl rfl (Nat.le_of_ble_eq_true rfl) (Nat.le_of_ble_eq_true rfl) (fun h => absurd h (by decide +kernel)) hy k)
theorem b45_59 {d : Nat} {q : Rs} {x0 : Nat} {x1 : Int64} {x3 : Int64} {s0 : Nat} {s1 : Int64} {σ : St} {σ2 : St}  (h1 : s0 < 24 ∧ kls s0 = 2)
    (hy : Er d 11 (0, ent 11 [.ref s0, .long s1], [], σ) (.inl none, σ2, 0))
    (k : Er (d + 1) 45 (62, [some (.ref x0), some (.long x1), none, some (.long x3), none], [], σ2) q) :
    Er (d + 1) 45 (59, [some (.ref x0), some (.long x1), none, some (.long x3), none], [.long s1, .ref s0], σ) q := (Er.call (vs := [.ref s0, .long s1]) (rest := []) r45_59 rfl rfl (Nat.le_of_ble_eq_true rfl) (Nat.le_of_ble_eq_true rfl) (fun _ => ⟨_, _, rfl, h1⟩) hy k)
theorem b45_62 {d : Nat} {q : Rs} {x0 : Nat} {x1 : Int64} {x3 : Int64} {σ : St} {σ2 : St}  (h1 : x0 < 24 ∧ kls x0 = 4)
    (hy : Er d 46 (0, ent 46 [.ref x0], [], σ) (.inl none, σ2, 0))
    (k : Er (d + 1) 45 (66, [some (.ref x0), some (.long x1), none, some (.long x3), none], [], σ2) q) :
    Er (d + 1) 45 (62, [some (.ref x0), some (.long x1), none, some (.long x3), none], [], σ) q := Er.sT (c2 := (63, [some (.ref x0), some (.long x1), none, some (.long x3), none], [.ref x0], σ)) r45_62 rfl rfl <| (Er.call (vs := [.ref x0]) (rest := []) r45_63 rfl rfl (Nat.le_of_ble_eq_true rfl) (Nat.le_of_ble_eq_true rfl) (fun _ => ⟨_, _, rfl, h1⟩) hy k)
theorem b45_66 {d : Nat} {q : Rs} {x0 : Nat} {x1 : Int64} {x3 : Int64} {σ : St} {σ2 : St} {r : Int32} (h1 : x0 < 24 ∧ kls x0 = 4)
    (hy : Er d 42 (0, ent 42 [.ref x0], [], σ) (.inl (some (.int r)), σ2, 0))
    (k : Er (d + 1) 45 (70, [some (.ref x0), some (.long x1), none, some (.long x3), none], [.int r], σ2) q) :
    Er (d + 1) 45 (66, [some (.ref x0), some (.long x1), none, some (.long x3), none], [], σ) q := Er.sT (c2 := (67, [some (.ref x0), some (.long x1), none, some (.long x3), none], [.ref x0], σ)) r45_66 rfl rfl <| (Er.call (vs := [.ref x0]) (rest := []) r45_67 rfl rfl (Nat.le_of_ble_eq_true rfl) (Nat.le_of_ble_eq_true rfl) (fun _ => ⟨_, _, rfl, h1⟩) hy k)
theorem b45_66x {d x c9 : Nat} {x0 : Nat} {x1 : Int64} {x3 : Int64} {σ : St} {σ2 : St} (h1 : x0 < 24 ∧ kls x0 = 4) (hx : x < 4)
    (hy : Er d 42 (0, ent 42 [.ref x0], [], σ) (.inr x, σ2, c9)) :
    Er (d + 1) 45 (66, [some (.ref x0), some (.long x1), none, some (.long x3), none], [], σ) (.inr x, σ2, c9) := Er.sT (c2 := (67, [some (.ref x0), some (.long x1), none, some (.long x3), none], [.ref x0], σ)) r45_66 rfl rfl <| (Er.callx (vs := [.ref x0]) (rest := []) r45_67 rfl rfl (Nat.le_of_ble_eq_true rfl) (Nat.le_of_ble_eq_true rfl) (fun _ => ⟨_, _, rfl, h1⟩) hx rfl rfl hy)
theorem b45_70 {d : Nat} {x0 : Nat} {x1 : Int64} {x3 : Int64} {s0 : Int32} {σ : St}  :
    Er (d + 1) 45 (70, [some (.ref x0), some (.long x1), none, some (.long x3), none], [.int s0], σ) (.inl (some (.int s0)), σ, 0) := (Er.ret r45_70 rfl ⟨_, _, rfl, rfl, rfl, rfl⟩)
/-! NumberModels.reduce()V -/
theorem tab_46 : tab 46 = tb46_0 := rfl
theorem ch46_0 {j : Nat} {r : Row} (h : tb46_0[j]? = some r) : rowAt 46 r.1 = some r := row_mem 46 (by decide) (by rw [tab_46]; exact List.mem_of_getElem? h)
theorem r46_0 : rowAt 46 0 = some (r0 0 1 (.aload_n 0)) := ch46_0 (j := 0) rfl
theorem r46_1 : rowAt 46 1 = some (ra 1 4 (.getfield 27) 5 4 195) := ch46_0 (j := 1) rfl
theorem r46_4 : rowAt 46 4 = some (ra 4 7 (.invokevirtual 313) 31 1 377) := ch46_0 (j := 2) rfl
theorem r46_7 : rowAt 46 7 = some (r0 7 8 (.aload_n 0)) := ch46_0 (j := 3) rfl
theorem r46_8 : rowAt 46 8 = some (ra 8 11 (.getfield 27) 5 4 195) := ch46_0 (j := 4) rfl
theorem r46_11 : rowAt 46 11 = some (ra 11 14 (.invokevirtual 229) 32 1 386) := ch46_0 (j := 5) rfl
theorem r46_14 : rowAt 46 14 = some (ra 14 17 (.ifCond .eq 4) 18 0 0) := ch46_0 (j := 6) rfl
theorem r46_17 : rowAt 46 17 = some (r0 17 18 (.return_)) := ch46_0 (j := 7) rfl
theorem r46_18 : rowAt 46 18 = some (r0 18 19 (.aload_n 0)) := ch46_0 (j := 8) rfl
theorem r46_19 : rowAt 46 19 = some (ra 19 22 (.getfield 50) 9 4 199) := ch46_0 (j := 9) rfl
theorem r46_22 : rowAt 46 22 = some (r0 22 23 (.aload_n 0)) := ch46_0 (j := 10) rfl
theorem r46_23 : rowAt 46 23 = some (ra 23 26 (.getfield 27) 5 4 195) := ch46_0 (j := 11) rfl
theorem r46_26 : rowAt 46 26 = some (ra 26 29 (.getfield 65) 0 3 122) := ch46_0 (j := 12) rfl
theorem r46_29 : rowAt 46 29 = some (r0 29 30 (.aload_n 0)) := ch46_0 (j := 13) rfl
theorem r46_30 : rowAt 46 30 = some (ra 30 33 (.getfield 27) 5 4 195) := ch46_0 (j := 14) rfl
theorem r46_33 : rowAt 46 33 = some (ra 33 36 (.getfield 76) 1 3 124) := ch46_0 (j := 15) rfl
theorem r46_36 : rowAt 46 36 = some (ra 36 39 (.invokevirtual 274) 0 3 394) := ch46_0 (j := 16) rfl
theorem r46_39 : rowAt 46 39 = some (r0 39 40 (.aload_n 0)) := ch46_0 (j := 17) rfl
theorem r46_40 : rowAt 46 40 = some (ra 40 43 (.getfield 43) 8 4 198) := ch46_0 (j := 18) rfl
theorem r46_43 : rowAt 46 43 = some (r0 43 44 (.aload_n 0)) := ch46_0 (j := 19) rfl
theorem r46_44 : rowAt 46 44 = some (ra 44 47 (.getfield 27) 5 4 195) := ch46_0 (j := 20) rfl
theorem r46_47 : rowAt 46 47 = some (ra 47 50 (.getfield 65) 0 3 122) := ch46_0 (j := 21) rfl
theorem r46_50 : rowAt 46 50 = some (r0 50 51 (.aload_n 0)) := ch46_0 (j := 22) rfl
theorem r46_51 : rowAt 46 51 = some (ra 51 54 (.getfield 50) 9 4 199) := ch46_0 (j := 23) rfl
theorem r46_54 : rowAt 46 54 = some (ra 54 57 (.getfield 277) 0 0 168) := ch46_0 (j := 24) rfl
theorem r46_57 : rowAt 46 57 = some (ra 57 60 (.invokevirtual 152) 6 3 485) := ch46_0 (j := 25) rfl
theorem r46_60 : rowAt 46 60 = some (r0 60 61 (.aload_n 0)) := ch46_0 (j := 26) rfl
theorem r46_61 : rowAt 46 61 = some (ra 61 64 (.getfield 27) 5 4 195) := ch46_0 (j := 27) rfl
theorem r46_64 : rowAt 46 64 = some (ra 64 67 (.getfield 65) 0 3 122) := ch46_0 (j := 28) rfl
theorem r46_67 : rowAt 46 67 = some (r0 67 68 (.aload_n 0)) := ch46_0 (j := 29) rfl
theorem r46_68 : rowAt 46 68 = some (ra 68 71 (.getfield 43) 8 4 198) := ch46_0 (j := 30) rfl
theorem r46_71 : rowAt 46 71 = some (ra 71 74 (.getfield 156) 0 1 145) := ch46_0 (j := 31) rfl
theorem r46_74 : rowAt 46 74 = some (ra 74 77 (.invokevirtual 297) 19 2 486) := ch46_0 (j := 32) rfl
theorem r46_77 : rowAt 46 77 = some (r0 77 78 (.aload_n 0)) := ch46_0 (j := 33) rfl
theorem r46_78 : rowAt 46 78 = some (ra 78 81 (.getfield 43) 8 4 198) := ch46_0 (j := 34) rfl
theorem r46_81 : rowAt 46 81 = some (r0 81 82 (.aload_n 0)) := ch46_0 (j := 35) rfl
theorem r46_82 : rowAt 46 82 = some (ra 82 85 (.getfield 27) 5 4 195) := ch46_0 (j := 36) rfl
theorem r46_85 : rowAt 46 85 = some (ra 85 88 (.getfield 76) 1 3 124) := ch46_0 (j := 37) rfl
theorem r46_88 : rowAt 46 88 = some (r0 88 89 (.aload_n 0)) := ch46_0 (j := 38) rfl
theorem r46_89 : rowAt 46 89 = some (ra 89 92 (.getfield 50) 9 4 199) := ch46_0 (j := 39) rfl
theorem r46_92 : rowAt 46 92 = some (ra 92 95 (.getfield 277) 0 0 168) := ch46_0 (j := 40) rfl
theorem r46_95 : rowAt 46 95 = some (ra 95 98 (.invokevirtual 152) 6 3 485) := ch46_0 (j := 41) rfl
theorem r46_98 : rowAt 46 98 = some (r0 98 99 (.aload_n 0)) := ch46_0 (j := 42) rfl
theorem r46_99 : rowAt 46 99 = some (ra 99 102 (.getfield 27) 5 4 195) := ch46_0 (j := 43) rfl
theorem r46_102 : rowAt 46 102 = some (ra 102 105 (.getfield 76) 1 3 124) := ch46_0 (j := 44) rfl
theorem r46_105 : rowAt 46 105 = some (r0 105 106 (.aload_n 0)) := ch46_0 (j := 45) rfl
theorem r46_106 : rowAt 46 106 = some (ra 106 109 (.getfield 43) 8 4 198) := ch46_0 (j := 46) rfl
theorem r46_109 : rowAt 46 109 = some (ra 109 112 (.getfield 156) 0 1 145) := ch46_0 (j := 47) rfl
theorem r46_112 : rowAt 46 112 = some (ra 112 115 (.invokevirtual 297) 19 2 486) := ch46_0 (j := 48) rfl
theorem r46_115 : rowAt 46 115 = some (r0 115 116 (.return_)) := ch46_0 (j := 49) rfl
theorem b46_0 {d : Nat} {q : Rs} {x0 : Nat} {σ : St} {σ2 : St}  (h1 : x0 < 24 ∧ kls x0 = 4) (h2 : (fr x0 5) < 24 ∧ kls (fr x0 5) = 3)
    (hy : Er d 31 (0, ent 31 [.ref (fr x0 5)], [], σ) (.inl none, σ2, 0))
    (k : Er (d + 1) 46 (7, [some (.ref x0)], [], σ2) q) :
    Er (d + 1) 46 (0, [some (.ref x0)], [], σ) q := Er.sT (c2 := (1, [some (.ref x0)], [.ref x0], σ)) r46_0 rfl rfl <| Er.st (P := (x0 < 24 ∧ kls x0 = 4)) (c2 := (4, [some (.ref x0)], [.ref (fr x0 5)], σ)) r46_1 rfl rfl h1 <| (Er.call (vs := [.ref (fr x0 5)]) (rest := []) r46_4 rfl rfl (Nat.le_of_ble_eq_true rfl) (Nat.le_of_ble_eq_true rfl) (fun _ => ⟨_, _, rfl, h2⟩) hy k)
theorem b46_7 {d : Nat} {q : Rs} {x0 : Nat} {σ : St} {σ2 : St} {r : Int32} (h1 : x0 < 24 ∧ kls x0 = 4) (h2 : (fr x0 5) < 24 ∧ kls (fr x0 5) = 3)
    (hy : Er d 32 (0, ent 32 [.ref (fr x0 5)], [], σ) (.inl (some (.int r)), σ2, 0))
    (k : Er (d + 1) 46 (14, [some (.ref x0)], [.int r], σ2) q) :
    Er (d + 1) 46 (7, [some (.ref x0)], [], σ) q := Er.sT (c2 := (8, [some (.ref x0)], [.ref x0], σ)) r46_7 rfl rfl <| Er.st (P := (x0 < 24 ∧ kls x0 = 4)) (c2 := (11, [some (.ref x0)], [.ref (fr x0 5)], σ)) r46_8 rfl rfl h1 <| (Er.call (vs := [.ref (fr x0 5)]) (rest := []) r46_11 rfl rfl (Nat.le_of_ble_eq_true rfl) (Nat.le_of_ble_eq_true rfl) (fun _ => ⟨_, _, rfl, h2⟩) hy k)
theorem b46_14 {d : Nat} {q : Rs} {x0 : Nat} {s0 : Int32} {σ : St} 
    (kt : s0 = (0 : Int32) → Er (d + 1) 46 (18, [some (.ref x0)], [], σ) q)
    (kf : ¬ s0 = (0 : Int32) → Er (d + 1) 46 (17, [some (.ref x0)], [], σ) q) :
    Er (d + 1) 46 (14, [some (.ref x0)], [.int s0], σ) q := Er.sT (c2 := (brn .eq s0 (0 : Int32) 18 17, [some (.ref x0)], [], σ)) r46_14 rfl rfl <| (br_eq kt kf)
theorem b46_17 {d : Nat} {x0 : Nat} {σ : St}  :
    Er (d + 1) 46 (17, [some (.ref x0)], [], σ) (.inl none, σ, 0) := (Er.ret r46_17 rfl ⟨rfl, rfl, rfl⟩)
theorem b46_18 {d : Nat} {q : Rs} {x0 : Nat} {σ : St} {σ2 : St}  (h1 : x0 < 24 ∧ kls x0 = 4) (h2 : (fr x0 5) < 24 ∧ kls (fr x0 5) = 3) (h3 : (fr x0 9) < 24 ∧ kls (fr x0 9) = 0)
    (hy : Er d 0 (0, ent 0 [.ref (fr x0 9), .ref (fr (fr x0 5) 0), .ref (fr (fr x0 5) 1)], [], σ) (.inl none, σ2, 0))
    (k : Er (d + 1) 46 (39, [some (.ref x0)], [], σ2) q) :
    Er (d + 1) 46 (18, [some (.ref x0)], [], σ) q := Er.sT (c2 := (19, [some (.ref x0)], [.ref x0], σ)) r46_18 rfl rfl <| Er.st (P := (x0 < 24 ∧ kls x0 = 4)) (c2 := (22, [some (.ref x0)], [.ref (fr x0 9)], σ)) r46_19 rfl rfl h1 <| Er.sT (c2 := (23, [some (.ref x0)], [.ref x0, .ref (fr x0 9)], σ)) r46_22 rfl rfl <| Er.st (P := (x0 < 24 ∧ kls x0 = 4)) (c2 := (26, [some (.ref x0)], [.ref (fr x0 5), .ref (fr x0 9)], σ)) r46_23 rfl rfl h1 <| Er.st (P := ((fr x0 5) < 24 ∧ kls (fr x0 5) = 3)) (c2 := (29, [some (.ref x0)], [.ref (fr (fr x0 5) 0), .ref (fr x0 9)], σ)) r46_26 rfl rfl h2 <| Er.sT (c2 := (30, [some (.ref x0)], [.ref x0, .ref (fr (fr x0 5) 0), .ref (fr x0 9)], σ)) r46_29 rfl rfl <| Er.st (P := (x0 < 24 ∧ kls x0 = 4)) (c2 := (33, [some (.ref x0)], [.ref (fr x0 5), .ref (fr (fr x0 5) 0), .ref (fr x0 9)], σ)) r46_30 rfl rfl h1 <| Er.st (P := ((fr x0 5) < 24 ∧ kls (fr x0 5) = 3)) (c2 := (36, [some (.ref x0)], [.ref (fr (fr x0 5) 1), .ref (fr (fr x0 5) 0), .ref (fr x0 9)], σ)) r46_33 rfl rfl h2 <| (Er.call (vs := [.ref (fr x0 9), .ref (fr (fr x0 5) 0), .ref (fr (fr x0 5) 1)]) (rest := []) r46_36 rfl rfl (Nat.le_of_ble_eq_true rfl) (Nat.le_of_ble_eq_true rfl) (fun _ => ⟨_, _, rfl, h3⟩) hy k)
theorem b46_39 {d : Nat} {q : Rs} {x0 : Nat} {σ : St} {σ2 : St}  (h1 : x0 < 24 ∧ kls x0 = 4) (h2 : (fr x0 5) < 24 ∧ kls (fr x0 5) = 3) (h3 : (fr x0 9) < 24 ∧ kls (fr x0 9) = 0) (h4 : (fr x0 8) < 24 ∧ kls (fr x0 8) = 1)
    (hy : Er d 6 (0, ent 6 [.ref (fr x0 8), .ref (fr (fr x0 5) 0), .ref (fr (fr x0 9) 0)], [], σ) (.inl none, σ2, 0))
    (k : Er (d + 1) 46 (60, [some (.ref x0)], [], σ2) q) :
    Er (d + 1) 46 (39, [some (.ref x0)], [], σ) q := Er.sT (c2 := (40, [some (.ref x0)], [.ref x0], σ)) r46_39 rfl rfl <| Er.st (P := (x0 < 24 ∧ kls x0 = 4)) (c2 := (43, [some (.ref x0)], [.ref (fr x0 8)], σ)) r46_40 rfl rfl h1 <| Er.sT (c2 := (44, [some (.ref x0)], [.ref x0, .ref (fr x0 8)], σ)) r46_43 rfl rfl <| Er.st (P := (x0 < 24 ∧ kls x0 = 4)) (c2 := (47, [some (.ref x0)], [.ref (fr x0 5), .ref (fr x0 8)], σ)) r46_44 rfl rfl h1 <| Er.st (P := ((fr x0 5) < 24 ∧ kls (fr x0 5) = 3)) (c2 := (50, [some (.ref x0)], [.ref (fr (fr x0 5) 0), .ref (fr x0 8)], σ)) r46_47 rfl rfl h2 <| Er.sT (c2 := (51, [some (.ref x0)], [.ref x0, .ref (fr (fr x0 5) 0), .ref (fr x0 8)], σ)) r46_50 rfl rfl <| Er.st (P := (x0 < 24 ∧ kls x0 = 4)) (c2 := (54, [some (.ref x0)], [.ref (fr x0 9), .ref (fr (fr x0 5) 0), .ref (fr x0 8)], σ)) r46_51 rfl rfl h1 <| Er.st (P := ((fr x0 9) < 24 ∧ kls (fr x0 9) = 0)) (c2 := (57, [some (.ref x0)], [.ref (fr (fr x0 9) 0), .ref (fr (fr x0 5) 0), .ref (fr x0 8)], σ)) r46_54 rfl rfl h3 <| (Er.call (vs := [.ref (fr x0 8), .ref (fr (fr x0 5) 0), .ref (fr (fr x0 9) 0)]) (rest := []) r46_57 rfl rfl (Nat.le_of_ble_eq_true rfl) (Nat.le_of_ble_eq_true rfl) (fun _ => ⟨_, _, rfl, h4⟩) hy k)
theorem b46_60 {d : Nat} {q : Rs} {x0 : Nat} {σ : St} {σ2 : St}  (h1 : x0 < 24 ∧ kls x0 = 4) (h2 : (fr x0 5) < 24 ∧ kls (fr x0 5) = 3) (h3 : (fr x0 8) < 24 ∧ kls (fr x0 8) = 1) (h4 : (fr (fr x0 5) 0) < 24 ∧ kls (fr (fr x0 5) 0) = 2)
    (hy : Er d 19 (0, ent 19 [.ref (fr (fr x0 5) 0), .ref (fr (fr x0 8) 0)], [], σ) (.inl none, σ2, 0))
    (k : Er (d + 1) 46 (77, [some (.ref x0)], [], σ2) q) :
    Er (d + 1) 46 (60, [some (.ref x0)], [], σ) q := Er.sT (c2 := (61, [some (.ref x0)], [.ref x0], σ)) r46_60 rfl rfl <| Er.st (P := (x0 < 24 ∧ kls x0 = 4)) (c2 := (64, [some (.ref x0)], [.ref (fr x0 5)], σ)) r46_61 rfl rfl h1 <| Er.st (P := ((fr x0 5) < 24 ∧ kls (fr x0 5) = 3)) (c2 := (67, [some (.ref x0)], [.ref (fr (fr x0 5) 0)], σ)) r46_64 rfl rfl h2 <| Er.sT (c2 := (68, [some (.ref x0)], [.ref x0, .ref (fr (fr x0 5) 0)], σ)) r46_67 rfl rfl <| Er.st (P := (x0 < 24 ∧ kls x0 = 4)) (c2 := (71, [some (.ref x0)], [.ref (fr x0 8), .ref (fr (fr x0 5) 0)], σ)) r46_68 rfl rfl h1 <| Er.st (P := ((fr x0 8) < 24 ∧ kls (fr x0 8) = 1)) (c2 := (74, [some (.ref x0)], [.ref (fr (fr x0 8) 0), .ref (fr (fr x0 5) 0)], σ)) r46_71 rfl rfl h3 <| (Er.call (vs := [.ref (fr (fr x0 5) 0), .ref (fr (fr x0 8) 0)]) (rest := []) r46_74 rfl rfl (Nat.le_of_ble_eq_true rfl) (Nat.le_of_ble_eq_true rfl) (fun _ => ⟨_, _, rfl, h4⟩) hy k)
theorem b46_77 {d : Nat} {q : Rs} {x0 : Nat} {σ : St} {σ2 : St}  (h1 : x0 < 24 ∧ kls x0 = 4) (h2 : (fr x0 5) < 24 ∧ kls (fr x0 5) = 3) (h3 : (fr x0 9) < 24 ∧ kls (fr x0 9) = 0) (h4 : (fr x0 8) < 24 ∧ kls (fr x0 8) = 1)
    (hy : Er d 6 (0, ent 6 [.ref (fr x0 8), .ref (fr (fr x0 5) 1), .ref (fr (fr x0 9) 0)], [], σ) (.inl none, σ2, 0))
    (k : Er (d + 1) 46 (98, [some (.ref x0)], [], σ2) q) :
    Er (d + 1) 46 (77, [some (.ref x0)], [], σ) q := Er.sT (c2 := (78, [some (.ref x0)], [.ref x0], σ)) r46_77 rfl rfl <| Er.st (P := (x0 < 24 ∧ kls x0 = 4)) (c2 := (81, [some (.ref x0)], [.ref (fr x0 8)], σ)) r46_78 rfl rfl h1 <| Er.sT (c2 := (82, [some (.ref x0)], [.ref x0, .ref (fr x0 8)], σ)) r46_81 rfl rfl <| Er.st (P := (x0 < 24 ∧ kls x0 = 4)) (c2 := (85, [some (.ref x0)], [.ref (fr x0 5), .ref (fr x0 8)], σ)) r46_82 rfl rfl h1 <| Er.st (P := ((fr x0 5) < 24 ∧ kls (fr x0 5) = 3)) (c2 := (88, [some (.ref x0)], [.ref (fr (fr x0 5) 1), .ref (fr x0 8)], σ)) r46_85 rfl rfl h2 <| Er.sT (c2 := (89, [some (.ref x0)], [.ref x0, .ref (fr (fr x0 5) 1), .ref (fr x0 8)], σ)) r46_88 rfl rfl <| Er.st (P := (x0 < 24 ∧ kls x0 = 4)) (c2 := (92, [some (.ref x0)], [.ref (fr x0 9), .ref (fr (fr x0 5) 1), .ref (fr x0 8)], σ)) r46_89 rfl rfl h1 <| Er.st (P := ((fr x0 9) < 24 ∧ kls (fr x0 9) = 0)) (c2 := (95, [some (.ref x0)], [.ref (fr (fr x0 9) 0), .ref (fr (fr x0 5) 1), .ref (fr x0 8)], σ)) r46_92 rfl rfl h3 <| (Er.call (vs := [.ref (fr x0 8), .ref (fr (fr x0 5) 1), .ref (fr (fr x0 9) 0)]) (rest := []) r46_95 rfl rfl (Nat.le_of_ble_eq_true rfl) (Nat.le_of_ble_eq_true rfl) (fun _ => ⟨_, _, rfl, h4⟩) hy k)
theorem b46_98 {d : Nat} {q : Rs} {x0 : Nat} {σ : St} {σ2 : St}  (h1 : x0 < 24 ∧ kls x0 = 4) (h2 : (fr x0 5) < 24 ∧ kls (fr x0 5) = 3) (h3 : (fr x0 8) < 24 ∧ kls (fr x0 8) = 1) (h4 : (fr (fr x0 5) 1) < 24 ∧ kls (fr (fr x0 5) 1) = 2)
    (hy : Er d 19 (0, ent 19 [.ref (fr (fr x0 5) 1), .ref (fr (fr x0 8) 0)], [], σ) (.inl none, σ2, 0))
    (k : Er (d + 1) 46 (115, [some (.ref x0)], [], σ2) q) :
    Er (d + 1) 46 (98, [some (.ref x0)], [], σ) q := Er.sT (c2 := (99, [some (.ref x0)], [.ref x0], σ)) r46_98 rfl rfl <| Er.st (P := (x0 < 24 ∧ kls x0 = 4)) (c2 := (102, [some (.ref x0)], [.ref (fr x0 5)], σ)) r46_99 rfl rfl h1 <| Er.st (P := ((fr x0 5) < 24 ∧ kls (fr x0 5) = 3)) (c2 := (105, [some (.ref x0)], [.ref (fr (fr x0 5) 1)], σ)) r46_102 rfl rfl h2 <| Er.sT (c2 := (106, [some (.ref x0)], [.ref x0, .ref (fr (fr x0 5) 1)], σ)) r46_105 rfl rfl <| Er.st (P := (x0 < 24 ∧ kls x0 = 4)) (c2 := (109, [some (.ref x0)], [.ref (fr x0 8), .ref (fr (fr x0 5) 1)], σ)) r46_106 rfl rfl h1 <| Er.st (P := ((fr x0 8) < 24 ∧ kls (fr x0 8) = 1)) (c2 := (112, [some (.ref x0)], [.ref (fr (fr x0 8) 0), .ref (fr (fr x0 5) 1)], σ)) r46_109 rfl rfl h3 <| (Er.call (vs := [.ref (fr (fr x0 5) 1), .ref (fr (fr x0 8) 0)]) (rest := []) r46_112 rfl rfl (Nat.le_of_ble_eq_true rfl) (Nat.le_of_ble_eq_true rfl) (fun _ => ⟨_, _, rfl, h4⟩) hy k)
theorem b46_115 {d : Nat} {x0 : Nat} {σ : St}  :
    Er (d + 1) 46 (115, [some (.ref x0)], [], σ) (.inl none, σ, 0) := (Er.ret r46_115 rfl ⟨rfl, rfl, rfl⟩)
/-! NumberModels.real(J)I -/
theorem tab_47 : tab 47 = tb47_0 := rfl
theorem ch47_0 {j : Nat} {r : Row} (h : tb47_0[j]? = some r) : rowAt 47 r.1 = some r := row_mem 47 (by decide) (by rw [tab_47]; exact List.mem_of_getElem? h)
theorem r47_0 : rowAt 47 0 = some (ra 0 3 (.getstatic 93) 46 0 494) := ch47_0 (j := 0) rfl
theorem r47_3 : rowAt 47 3 = some (ra 3 4 (.lload_n 1) 1 0 0) := ch47_0 (j := 1) rfl
theorem r47_4 : rowAt 47 4 = some (ra 4 7 (.invokevirtual 99) 140 2 496) := ch47_0 (j := 2) rfl
theorem r47_7 : rowAt 47 7 = some (ra 7 10 (.ifCond .ne 13) 20 0 0) := ch47_0 (j := 3) rfl
theorem r47_10 : rowAt 47 10 = some (ra 10 13 (.new 83) 2 4 357) := ch47_0 (j := 4) rfl
theorem r47_20 : rowAt 47 20 = some (r0 20 21 (.aload_n 0)) := ch47_0 (j := 5) rfl
theorem r47_21 : rowAt 47 21 = some (ra 21 24 (.getfield 27) 5 4 195) := ch47_0 (j := 6) rfl
theorem r47_24 : rowAt 47 24 = some (ra 24 27 (.getfield 65) 0 3 122) := ch47_0 (j := 7) rfl
theorem r47_27 : rowAt 47 27 = some (ra 27 30 (.getstatic 93) 46 0 494) := ch47_0 (j := 8) rfl
theorem r47_30 : rowAt 47 30 = some (ra 30 31 (.lload_n 1) 1 0 0) := ch47_0 (j := 9) rfl
theorem r47_31 : rowAt 47 31 = some (ra 31 34 (.invokevirtual 105) 142 2 505) := ch47_0 (j := 10) rfl
theorem r47_34 : rowAt 47 34 = some (ra 34 37 (.invokevirtual 72) 11 2 243) := ch47_0 (j := 11) rfl
theorem r47_37 : rowAt 47 37 = some (r0 37 38 (.aload_n 0)) := ch47_0 (j := 12) rfl
theorem r47_38 : rowAt 47 38 = some (ra 38 41 (.getfield 27) 5 4 195) := ch47_0 (j := 13) rfl
theorem r47_41 : rowAt 47 41 = some (ra 41 44 (.getfield 76) 1 3 124) := ch47_0 (j := 14) rfl
theorem r47_44 : rowAt 47 44 = some (44, 45, .lconst 1, 0, 0, 0, 0, 1) := ch47_0 (j := 15) rfl
theorem r47_45 : rowAt 47 45 = some (ra 45 48 (.invokevirtual 72) 11 2 243) := ch47_0 (j := 16) rfl
theorem r47_48 : rowAt 47 48 = some (r0 48 49 (.aload_n 0)) := ch47_0 (j := 17) rfl
theorem r47_49 : rowAt 47 49 = some (ra 49 52 (.getfield 27) 5 4 195) := ch47_0 (j := 18) rfl
theorem r47_52 : rowAt 47 52 = some (r0 52 53 (.aload_n 0)) := ch47_0 (j := 19) rfl
theorem r47_53 : rowAt 47 53 = some (ra 53 56 (.getfield 27) 5 4 195) := ch47_0 (j := 20) rfl
theorem r47_56 : rowAt 47 56 = some (ra 56 59 (.getfield 65) 0 3 122) := ch47_0 (j := 21) rfl
theorem r47_59 : rowAt 47 59 = some (ra 59 62 (.invokevirtual 108) 17 1 513) := ch47_0 (j := 22) rfl
theorem r47_62 : rowAt 47 62 = some (ra 62 65 (.ifCond .eq 7) 69 0 0) := ch47_0 (j := 23) rfl
theorem r47_65 : rowAt 47 65 = some (r0 65 66 (.iconst 0)) := ch47_0 (j := 24) rfl
theorem r47_66 : rowAt 47 66 = some (ra 66 69 (.goto 10) 76 0 0) := ch47_0 (j := 25) rfl
theorem r47_69 : rowAt 47 69 = some (ra 69 72 (.getstatic 93) 46 0 494) := ch47_0 (j := 26) rfl
theorem r47_72 : rowAt 47 72 = some (ra 72 73 (.lload_n 1) 1 0 0) := ch47_0 (j := 27) rfl
theorem r47_73 : rowAt 47 73 = some (ra 73 76 (.invokevirtual 112) 144 2 514) := ch47_0 (j := 28) rfl
theorem r47_76 : rowAt 47 76 = some (ra 76 79 (.putfield 62) 2 3 126) := ch47_0 (j := 29) rfl
theorem r47_79 : rowAt 47 79 = some (r0 79 80 (.aload_n 0)) := ch47_0 (j := 30) rfl
theorem r47_80 : rowAt 47 80 = some (ra 80 83 (.getfield 27) 5 4 195) := ch47_0 (j := 31) rfl
theorem r47_83 : rowAt 47 83 = some (ra 83 86 (.getstatic 93) 46 0 494) := ch47_0 (j := 32) rfl
theorem r47_86 : rowAt 47 86 = some (ra 86 87 (.lload_n 1) 1 0 0) := ch47_0 (j := 33) rfl
theorem r47_87 : rowAt 47 87 = some (ra 87 90 (.invokevirtual 116) 146 2 522) := ch47_0 (j := 34) rfl
theorem r47_90 : rowAt 47 90 = some (ra 90 93 (.invokevirtual 119) 33 2 529) := ch47_0 (j := 35) rfl
theorem r47_93 : rowAt 47 93 = some (r0 93 94 (.aload_n 0)) := ch47_0 (j := 36) rfl
theorem r47_94 : rowAt 47 94 = some (ra 94 97 (.invokevirtual 79) 42 1 256) := ch47_0 (j := 37) rfl
theorem r47_97 : rowAt 47 97 = some (r0 97 98 (.ireturn)) := ch47_0 (j := 38) rfl
theorem b47_0 {d : Nat} {q : Rs} {x0 : Nat} {x1 : Int64} {σ : St} {σ2 : St} {r : Int32} (h1 : 46 = 46 ∨ 46 = 47)
    (hy : Er d 140 (0, ent 140 [.ref 46, .long x1], [], σ) (.inl (some (.int r)), σ2, 0))
    (k : Er (d + 1) 47 (7, [some (.ref x0), some (.long x1), none], [.int r], σ2) q) :
    Er (d + 1) 47 (0, [some (.ref x0), some (.long x1), none], [], σ) q := Er.sT (c2 := (3, [some (.ref x0), some (.long x1), none], [.ref 46], σ)) r47_0 rfl rfl <| Er.sT (c2 := (4, [some (.ref x0), some (.long x1), none], [.long x1, .ref 46], σ)) r47_3 rfl rfl <| (Er.call (vs := [.ref 46, .long x1]) (rest := []) r47_4 rfl rfl (Nat.le_of_ble_eq_true rfl) (Nat.le_of_ble_eq_true rfl) (fun _ => ⟨_, _, rfl, h1⟩) hy k)
theorem b47_7 {d : Nat} {q : Rs} {x0 : Nat} {x1 : Int64} {s0 : Int32} {σ : St} 
    (kt : ¬ s0 = (0 : Int32) → Er (d + 1) 47 (20, [some (.ref x0), some (.long x1), none], [], σ) q)
    (kf : s0 = (0 : Int32) → Er (d + 1) 47 (10, [some (.ref x0), some (.long x1), none], [], σ) q) :
    Er (d + 1) 47 (7, [some (.ref x0), some (.long x1), none], [.int s0], σ) q := Er.sT (c2 := (brn .ne s0 (0 : Int32) 20 10, [some (.ref x0), some (.long x1), none], [], σ)) r47_7 rfl rfl <| (br_ne kt kf)
theorem b47_10 {d : Nat} {x0 : Nat} {x1 : Int64} {σ : St}  :
    Er (d + 6) 47 (10, [some (.ref x0), some (.long x1), none], [], σ) (.inr 2, σ, 1) := (Er.thr r47_10 rfl rfl)
theorem b47_20 {d : Nat} {q : Rs} {x0 : Nat} {x1 : Int64} {σ : St} {σ2 : St} {r : Int64} (h1 : x0 < 24 ∧ kls x0 = 4) (h2 : (fr x0 5) < 24 ∧ kls (fr x0 5) = 3) (h3 : 46 = 46 ∨ 46 = 47)
    (hy : Er d 142 (0, ent 142 [.ref 46, .long x1], [], σ) (.inl (some (.long r)), σ2, 0))
    (k : Er (d + 1) 47 (34, [some (.ref x0), some (.long x1), none], [.long r, .ref (fr (fr x0 5) 0)], σ2) q) :
    Er (d + 1) 47 (20, [some (.ref x0), some (.long x1), none], [], σ) q := Er.sT (c2 := (21, [some (.ref x0), some (.long x1), none], [.ref x0], σ)) r47_20 rfl rfl <| Er.st (P := (x0 < 24 ∧ kls x0 = 4)) (c2 := (24, [some (.ref x0), some (.long x1), none], [.ref (fr x0 5)], σ)) r47_21 rfl rfl h1 <| Er.st (P := ((fr x0 5) < 24 ∧ kls (fr x0 5) = 3)) (c2 := (27, [some (.ref x0), some (.long x1), none], [.ref (fr (fr x0 5) 0)], σ)) r47_24 rfl rfl h2 <| Er.sT (c2 := (30, [some (.ref x0), some (.long x1), none], [.ref 46, .ref (fr (fr x0 5) 0)], σ)) r47_27 rfl rfl <| Er.sT (c2 := (31, [some (.ref x0), some (.long x1), none], [.long x1, .ref 46, .ref (fr (fr x0 5) 0)], σ)) r47_30 rfl rfl <| (Er.call (vs := [.ref 46, .long x1]) (rest := [.ref (fr (fr x0 5) 0)]) r47_31 rfl rfl (Nat.le_of_ble_eq_true rfl) (Nat.le_of_ble_eq_true rfl) (fun _ => ⟨_, _, rfl, h3⟩) hy k)
theorem b47_34 {d : Nat} {q : Rs} {x0 : Nat} {x1 : Int64} {s0 : Nat} {s1 : Int64} {σ : St} {σ2 : St}  (h1 : s0 < 24 ∧ kls s0 = 2)
    (hy : Er d 11 (0, ent 11 [.ref s0, .long s1], [], σ) (.inl none, σ2, 0))
    (k : Er (d + 1) 47 (37, [some (.ref x0), some (.long x1), none], [], σ2) q) :
    Er (d + 1) 47 (34, [some (.ref x0), some (.long x1), none], [.long s1, .ref s0], σ) q := (Er.call (vs := [.ref s0, .long s1]) (rest := []) r47_34 rfl rfl (Nat.le_of_ble_eq_true rfl) (Nat.le_of_ble_eq_true rfl) (fun _ => ⟨_, _, rfl, h1⟩) hy k)
theorem b47_37 {d : Nat} {q : Rs} {x0 : Nat} {x1 : Int64} {σ : St} {σ2 : St}  (h1 : x0 < 24 ∧ kls x0 = 4) (h2 : (fr x0 5) < 24 ∧ kls (fr x0 5) = 3) (h3 : (fr (fr x0 5) 1) < 24 ∧ kls (fr (fr x0 5) 1) = 2)
    (hy : Er d 11 (0, ent 11 [.ref (fr (fr x0 5) 1), .long (1 : Int64)], [], σ) (.inl none, σ2, 0))
    (k : Er (d + 1) 47 (48, [some (.ref x0), some (.long x1), none], [], σ2) q) :
    Er (d + 1) 47 (37, [some (.ref x0), some (.long x1), none], [], σ) q := Er.sT (c2 := (38, [some (.ref x0), some (.long x1), none], [.ref x0], σ)) r47_37 rfl rfl <| Er.st (P := (x0 < 24 ∧ kls x0 = 4)) (c2 := (41, [some (.ref x0), some (.long x1), none], [.ref (fr x0 5)], σ)) r47_38 rfl rfl h1 <| Er.st (P := ((fr x0 5) < 24 ∧ kls (fr x0 5) = 3)) (c2 := (44, [some (.ref x0), some (.long x1), none], [.ref (fr (fr x0 5) 1)], σ)) r47_41 rfl rfl h2 <| Er.sT (c2 := (45, [some (.ref x0), some (.long x1), none], [.long (1 : Int64), .ref (fr (fr x0 5) 1)], σ)) r47_44 rfl rfl <| (Er.call (vs := [.ref (fr (fr x0 5) 1), .long (1 : Int64)]) (rest := []) r47_45 rfl rfl (Nat.le_of_ble_eq_true rfl) (Nat.le_of_ble_eq_true rfl) (fun _ => ⟨_, _, rfl, h3⟩) hy k)
theorem b47_48 {d : Nat} {q : Rs} {x0 : Nat} {x1 : Int64} {σ : St} {σ2 : St} {r : Int32} (h1 : x0 < 24 ∧ kls x0 = 4) (h2 : (fr x0 5) < 24 ∧ kls (fr x0 5) = 3) (h3 : (fr (fr x0 5) 0) < 24 ∧ kls (fr (fr x0 5) 0) = 2)
    (hy : Er d 17 (0, ent 17 [.ref (fr (fr x0 5) 0)], [], σ) (.inl (some (.int r)), σ2, 0))
    (k : Er (d + 1) 47 (62, [some (.ref x0), some (.long x1), none], [.int r, .ref (fr x0 5)], σ2) q) :
    Er (d + 1) 47 (48, [some (.ref x0), some (.long x1), none], [], σ) q := Er.sT (c2 := (49, [some (.ref x0), some (.long x1), none], [.ref x0], σ)) r47_48 rfl rfl <| Er.st (P := (x0 < 24 ∧ kls x0 = 4)) (c2 := (52, [some (.ref x0), some (.long x1), none], [.ref (fr x0 5)], σ)) r47_49 rfl rfl h1 <| Er.sT (c2 := (53, [some (.ref x0), some (.long x1), none], [.ref x0, .ref (fr x0 5)], σ)) r47_52 rfl rfl <| Er.st (P := (x0 < 24 ∧ kls x0 = 4)) (c2 := (56, [some (.ref x0), some (.long x1), none], [.ref (fr x0 5), .ref (fr x0 5)], σ)) r47_53 rfl rfl h1 <| Er.st (P := ((fr x0 5) < 24 ∧ kls (fr x0 5) = 3)) (c2 := (59, [some (.ref x0), some (.long x1), none], [.ref (fr (fr x0 5) 0), .ref (fr x0 5)], σ)) r47_56 rfl rfl h2 <| (Er.call (vs := [.ref (fr (fr x0 5) 0)]) (rest := [.ref (fr x0 5)]) r47_59 rfl rfl (Nat.le_of_ble_eq_true rfl) (Nat.le_of_ble_eq_true rfl) (fun _ => ⟨_, _, rfl, h3⟩) hy k)
theorem b47_62 {d : Nat} {q : Rs} {x0 : Nat} {x1 : Int64} {s0 : Nat} {s1 : Int32} {σ : St} 
    (kt : s1 = (0 : Int32) → Er (d + 1) 47 (69, [some (.ref x0), some (.long x1), none], [.ref s0], σ) q)
    (kf : ¬ s1 = (0 : Int32) → Er (d + 1) 47 (65, [some (.ref x0), some (.long x1), none], [.ref s0], σ) q) :
    Er (d + 1) 47 (62, [some (.ref x0), some (.long x1), none], [.int s1, .ref s0], σ) q := Er.sT (c2 := (brn .eq s1 (0 : Int32) 69 65, [some (.ref x0), some (.long x1), none], [.ref s0], σ)) r47_62 rfl rfl <| (br_eq kt kf)
theorem b47_65 {d : Nat} {q : Rs} {x0 : Nat} {x1 : Int64} {s0 : Nat} {σ : St} 
    (k : Er (d + 1) 47 (76, [some (.ref x0), some (.long x1), none], [.int (0 : Int32), .ref s0], σ) q) :
    Er (d + 1) 47 (65, [some (.ref x0), some (.long x1), none], [.ref s0], σ) q := Er.sT (c2 := (66, [some (.ref x0), some (.long x1), none], [.int (0 : Int32), .ref s0], σ)) r47_65 rfl rfl <| Er.sT (c2 := (76, [some (.ref x0), some (.long x1), none], [.int (0 : Int32), .ref s0], σ)) r47_66 rfl rfl <| k
theorem b47_69 {d : Nat} {q : Rs} {x0 : Nat} {x1 : Int64} {s0 : Nat} {σ : St} {σ2 : St} {r : Int32} (h1 : 46 = 46 ∨ 46 = 47)
    (hy : Er d 144 (0, ent 144 [.ref 46, .long x1], [], σ) (.inl (some (.int r)), σ2, 0))
    (k : Er (d + 1) 47 (76, [some (.ref x0), some (.long x1), none], [.int r, .ref s0], σ2) q) :
    Er (d + 1) 47 (69, [some (.ref x0), some (.long x1), none], [.ref s0], σ) q := Er.sT (c2 := (72, [some (.ref x0), some (.long x1), none], [.ref 46, .ref s0], σ)) r47_69 rfl rfl <| Er.sT (c2 := (73, [some (.ref x0), some (.long x1), none], [.long x1, .ref 46, .ref s0], σ)) r47_72 rfl rfl <| (Er.call (vs := [.ref 46, .long x1]) (rest := [.ref s0]) r47_73 rfl rfl (Nat.le_of_ble_eq_true rfl) (Nat.le_of_ble_eq_true rfl) (fun _ => ⟨_, _, rfl, h1⟩) hy k)
theorem b47_76 {d : Nat} {q : Rs} {x0 : Nat} {x1 : Int64} {s0 : Nat} {s1 : Int32} {σ : St} {σ2 : St} {r : Int32} (h1 : s0 < 24 ∧ kls s0 = 3 ∧ ft 3 2 = 0) (h2 : x0 < 24 ∧ kls x0 = 4) (h3 : 46 = 46 ∨ 46 = 47)
    (hy : Er d 146 (0, ent 146 [.ref 46, .long x1], [], (sfi σ s0 2 s1)) (.inl (some (.int r)), σ2, 0))
    (k : Er (d + 1) 47 (90, [some (.ref x0), some (.long x1), none], [.int r, .ref (fr x0 5)], σ2) q) :
    Er (d + 1) 47 (76, [some (.ref x0), some (.long x1), none], [.int s1, .ref s0], σ) q := Er.st (P := (s0 < 24 ∧ kls s0 = 3 ∧ ft 3 2 = 0)) (c2 := (79, [some (.ref x0), some (.long x1), none], [], (sfi σ s0 2 s1))) r47_76 rfl rfl h1 <| Er.sT (c2 := (80, [some (.ref x0), some (.long x1), none], [.ref x0], (sfi σ s0 2 s1))) r47_79 rfl rfl <| Er.st (P := (x0 < 24 ∧ kls x0 = 4)) (c2 := (83, [some (.ref x0), some (.long x1), none], [.ref (fr x0 5)], (sfi σ s0 2 s1))) r47_80 rfl rfl h2 <| Er.sT (c2 := (86, [some (.ref x0), some (.long x1), none], [.ref 46, .ref (fr x0 5)], (sfi σ s0 2 s1))) r47_83 rfl rfl <| Er.sT (c2 := (87, [some (.ref x0), some (.long x1), none], [.long x1, .ref 46, .ref (fr x0 5)], (sfi σ s0 2 s1))) r47_86 rfl rfl <| (Er.call (vs := [.ref 46, .long x1]) (rest := [.ref (fr x0 5)]) r47_87 rfl rfl (Nat.le_of_ble_eq_true rfl) (Nat.le_of_ble_eq_true rfl) (fun _ => ⟨_, _, rfl, h3⟩) hy k)
theorem b47_90 {d : Nat} {q : Rs} {x0 : Nat} {x1 : Int64} {s0 : Nat} {s1 : Int32} {σ : St} {σ2 : St}  (h1 : s0 < 24 ∧ kls s0 = 3)
    (hy : Er d 33 (0, ent 33 [.ref s0, .int s1], [], σ) (.inl none, σ2, 0))
    (k : Er (d + 1) 47 (93, [some (.ref x0), some (.long x1), none], [], σ2) q) :
    Er (d + 1) 47 (90, [some (.ref x0), some (.long x1), none], [.int s1, .ref s0], σ) q := (Er.call (vs := [.ref s0, .int s1]) (rest := []) r47_90 rfl rfl (Nat.le_of_ble_eq_true rfl) (Nat.le_of_ble_eq_true rfl) (fun _ => ⟨_, _, rfl, h1⟩) hy k)
theorem b47_90x {d x c9 : Nat} {x0 : Nat} {x1 : Int64} {s0 : Nat} {s1 : Int32} {σ : St} {σ2 : St} (h1 : s0 < 24 ∧ kls s0 = 3) (hx : x < 4)
    (hy : Er d 33 (0, ent 33 [.ref s0, .int s1], [], σ) (.inr x, σ2, c9)) :
    Er (d + 1) 47 (90, [some (.ref x0), some (.long x1), none], [.int s1, .ref s0], σ) (.inr x, σ2, c9) := (Er.callx (vs := [.ref s0, .int s1]) (rest := []) r47_90 rfl rfl (Nat.le_of_ble_eq_true rfl) (Nat.le_of_ble_eq_true rfl) (fun _ => ⟨_, _, rfl, h1⟩) hx rfl rfl hy)
theorem b47_93 {d : Nat} {q : Rs} {x0 : Nat} {x1 : Int64} {σ : St} {σ2 : St} {r : Int32} (h1 : x0 < 24 ∧ kls x0 = 4)
    (hy : Er d 42 (0, ent 42 [.ref x0], [], σ) (.inl (some (.int r)), σ2, 0))
    (k : Er (d + 1) 47 (97, [some (.ref x0), some (.long x1), none], [.int r], σ2) q) :
    Er (d + 1) 47 (93, [some (.ref x0), some (.long x1), none], [], σ) q := Er.sT (c2 := (94, [some (.ref x0), some (.long x1), none], [.ref x0], σ)) r47_93 rfl rfl <| (Er.call (vs := [.ref x0]) (rest := []) r47_94 rfl rfl (Nat.le_of_ble_eq_true rfl) (Nat.le_of_ble_eq_true rfl) (fun _ => ⟨_, _, rfl, h1⟩) hy k)
theorem b47_93x {d x c9 : Nat} {x0 : Nat} {x1 : Int64} {σ : St} {σ2 : St} (h1 : x0 < 24 ∧ kls x0 = 4) (hx : x < 4)
    (hy : Er d 42 (0, ent 42 [.ref x0], [], σ) (.inr x, σ2, c9)) :
    Er (d + 1) 47 (93, [some (.ref x0), some (.long x1), none], [], σ) (.inr x, σ2, c9) := Er.sT (c2 := (94, [some (.ref x0), some (.long x1), none], [.ref x0], σ)) r47_93 rfl rfl <| (Er.callx (vs := [.ref x0]) (rest := []) r47_94 rfl rfl (Nat.le_of_ble_eq_true rfl) (Nat.le_of_ble_eq_true rfl) (fun _ => ⟨_, _, rfl, h1⟩) hx rfl rfl hy)
theorem b47_97 {d : Nat} {x0 : Nat} {x1 : Int64} {s0 : Int32} {σ : St}  :
    Er (d + 1) 47 (97, [some (.ref x0), some (.long x1), none], [.int s0], σ) (.inl (some (.int s0)), σ, 0) := (Er.ret r47_97 rfl ⟨_, _, rfl, rfl, rfl, rfl⟩)
/-! NumberModels.act(III)I -/
theorem tab_48 : tab 48 = tb48_0 := rfl
theorem ch48_0 {j : Nat} {r : Row} (h : tb48_0[j]? = some r) : rowAt 48 r.1 = some r := row_mem 48 (by decide) (by rw [tab_48]; exact List.mem_of_getElem? h)
theorem r48_0 : rowAt 48 0 = some (r0 0 1 (.aload_n 0)) := ch48_0 (j := 0) rfl
theorem r48_1 : rowAt 48 1 = some (ra 1 2 (.iload_n 2) 2 0 0) := ch48_0 (j := 1) rfl
theorem r48_2 : rowAt 48 2 = some (ra 2 5 (.invokevirtual 123) 49 2 556) := ch48_0 (j := 2) rfl
theorem r48_5 : rowAt 48 5 = some (r0 5 6 (.aload_n 0)) := ch48_0 (j := 3) rfl
theorem r48_6 : rowAt 48 6 = some (ra 6 7 (.iload_n 3) 3 0 0) := ch48_0 (j := 4) rfl
theorem r48_7 : rowAt 48 7 = some (ra 7 10 (.invokevirtual 123) 49 2 556) := ch48_0 (j := 5) rfl
theorem r48_10 : rowAt 48 10 = some (r0 10 11 (.aload_n 0)) := ch48_0 (j := 6) rfl
theorem r48_11 : rowAt 48 11 = some (ra 11 12 (.iload_n 2) 2 0 0) := ch48_0 (j := 7) rfl
theorem r48_12 : rowAt 48 12 = some (r0 12 13 (.aload_n 0)) := ch48_0 (j := 8) rfl
theorem r48_13 : rowAt 48 13 = some (ra 13 16 (.getfield 20) 3 4 193) := ch48_0 (j := 9) rfl
theorem r48_16 : rowAt 48 16 = some (ra 16 19 (.invokevirtual 126) 50 3 576) := ch48_0 (j := 10) rfl
theorem r48_19 : rowAt 48 19 = some (r0 19 20 (.aload_n 0)) := ch48_0 (j := 11) rfl
theorem r48_20 : rowAt 48 20 = some (ra 20 21 (.iload_n 3) 3 0 0) := ch48_0 (j := 12) rfl
theorem r48_21 : rowAt 48 21 = some (r0 21 22 (.aload_n 0)) := ch48_0 (j := 13) rfl
theorem r48_22 : rowAt 48 22 = some (ra 22 25 (.getfield 24) 4 4 194) := ch48_0 (j := 14) rfl
theorem r48_25 : rowAt 48 25 = some (ra 25 28 (.invokevirtual 126) 50 3 576) := ch48_0 (j := 15) rfl
theorem r48_28 : rowAt 48 28 = some (r0 28 29 (.aload_n 0)) := ch48_0 (j := 16) rfl
theorem r48_29 : rowAt 48 29 = some (ra 29 30 (.iload_n 1) 1 0 0) := ch48_0 (j := 17) rfl
theorem r48_30 : rowAt 48 30 = some (ra 30 33 (.invokevirtual 130) 51 2 584) := ch48_0 (j := 18) rfl
theorem r48_33 : rowAt 48 33 = some (r0 33 34 (.aload_n 0)) := ch48_0 (j := 19) rfl
theorem r48_34 : rowAt 48 34 = some (ra 34 35 (.iload_n 1) 1 0 0) := ch48_0 (j := 20) rfl
theorem r48_35 : rowAt 48 35 = some (ra 35 38 (.invokevirtual 133) 52 2 610) := ch48_0 (j := 21) rfl
theorem r48_38 : rowAt 48 38 = some (r0 38 39 (.aload_n 0)) := ch48_0 (j := 22) rfl
theorem r48_39 : rowAt 48 39 = some (ra 39 40 (.iload_n 1) 1 0 0) := ch48_0 (j := 23) rfl
theorem r48_40 : rowAt 48 40 = some (ra 40 43 (.invokevirtual 136) 53 2 615) := ch48_0 (j := 24) rfl
theorem r48_43 : rowAt 48 43 = some (ra 43 44 (.iload_n 1) 1 0 0) := ch48_0 (j := 25) rfl
theorem r48_44 : rowAt 48 44 = some (44, 46, .bipush 7, 0, 0, 0, 7, 0) := ch48_0 (j := 26) rfl
theorem r48_46 : rowAt 48 46 = some (ra 46 49 (.if_icmp .gt 7) 53 0 0) := ch48_0 (j := 27) rfl
theorem r48_49 : rowAt 48 49 = some (r0 49 50 (.aload_n 0)) := ch48_0 (j := 28) rfl
theorem r48_50 : rowAt 48 50 = some (ra 50 53 (.invokevirtual 90) 46 1 373) := ch48_0 (j := 29) rfl
theorem r48_53 : rowAt 48 53 = some (r0 53 54 (.aload_n 0)) := ch48_0 (j := 30) rfl
theorem r48_54 : rowAt 48 54 = some (ra 54 57 (.invokevirtual 79) 42 1 256) := ch48_0 (j := 31) rfl
theorem r48_57 : rowAt 48 57 = some (r0 57 58 (.ireturn)) := ch48_0 (j := 32) rfl
theorem b48_0 {d : Nat} {q : Rs} {x0 : Nat} {x1 : Int32} {x2 : Int32} {x3 : Int32} {σ : St} {σ2 : St}  (h1 : x0 < 24 ∧ kls x0 = 4)
    (hy : Er d 49 (0, ent 49 [.ref x0, .int x2], [], σ) (.inl none, σ2, 0))
    (k : Er (d + 1) 48 (5, [some (.ref x0), some (.int x1), some (.int x2), some (.int x3)], [], σ2) q) :
    Er (d + 1) 48 (0, [some (.ref x0), some (.int x1), some (.int x2), some (.int x3)], [], σ) q := Er.sT (c2 := (1, [some (.ref x0), some (.int x1), some (.int x2), some (.int x3)], [.ref x0], σ)) r48_0 rfl rfl <| Er.sT (c2 := (2, [some (.ref x0), some (.int x1), some (.int x2), some (.int x3)], [.int x2, .ref x0], σ)) r48_1 rfl rfl <| (Er.call (vs := [.ref x0, .int x2]) (rest := []) r48_2 rfl rfl (Nat.le_of_ble_eq_true rfl) (Nat.le_of_ble_eq_true rfl) (fun _ => ⟨_, _, rfl, h1⟩) hy k)
theorem b48_0x {d x c9 : Nat} {x0 : Nat} {x1 : Int32} {x2 : Int32} {x3 : Int32} {σ : St} {σ2 : St} (h1 : x0 < 24 ∧ kls x0 = 4) (hx : x < 4)
    (hy : Er d 49 (0, ent 49 [.ref x0, .int x2], [], σ) (.inr x, σ2, c9)) :
    Er (d + 1) 48 (0, [some (.ref x0), some (.int x1), some (.int x2), some (.int x3)], [], σ) (.inr x, σ2, c9) := Er.sT (c2 := (1, [some (.ref x0), some (.int x1), some (.int x2), some (.int x3)], [.ref x0], σ)) r48_0 rfl rfl <| Er.sT (c2 := (2, [some (.ref x0), some (.int x1), some (.int x2), some (.int x3)], [.int x2, .ref x0], σ)) r48_1 rfl rfl <| (Er.callx (vs := [.ref x0, .int x2]) (rest := []) r48_2 rfl rfl (Nat.le_of_ble_eq_true rfl) (Nat.le_of_ble_eq_true rfl) (fun _ => ⟨_, _, rfl, h1⟩) hx rfl rfl hy)
theorem b48_5 {d : Nat} {q : Rs} {x0 : Nat} {x1 : Int32} {x2 : Int32} {x3 : Int32} {σ : St} {σ2 : St}  (h1 : x0 < 24 ∧ kls x0 = 4)
    (hy : Er d 49 (0, ent 49 [.ref x0, .int x3], [], σ) (.inl none, σ2, 0))
    (k : Er (d + 1) 48 (10, [some (.ref x0), some (.int x1), some (.int x2), some (.int x3)], [], σ2) q) :
    Er (d + 1) 48 (5, [some (.ref x0), some (.int x1), some (.int x2), some (.int x3)], [], σ) q := Er.sT (c2 := (6, [some (.ref x0), some (.int x1), some (.int x2), some (.int x3)], [.ref x0], σ)) r48_5 rfl rfl <| Er.sT (c2 := (7, [some (.ref x0), some (.int x1), some (.int x2), some (.int x3)], [.int x3, .ref x0], σ)) r48_6 rfl rfl <| (Er.call (vs := [.ref x0, .int x3]) (rest := []) r48_7 rfl rfl (Nat.le_of_ble_eq_true rfl) (Nat.le_of_ble_eq_true rfl) (fun _ => ⟨_, _, rfl, h1⟩) hy k)
theorem b48_5x {d x c9 : Nat} {x0 : Nat} {x1 : Int32} {x2 : Int32} {x3 : Int32} {σ : St} {σ2 : St} (h1 : x0 < 24 ∧ kls x0 = 4) (hx : x < 4)
    (hy : Er d 49 (0, ent 49 [.ref x0, .int x3], [], σ) (.inr x, σ2, c9)) :
    Er (d + 1) 48 (5, [some (.ref x0), some (.int x1), some (.int x2), some (.int x3)], [], σ) (.inr x, σ2, c9) := Er.sT (c2 := (6, [some (.ref x0), some (.int x1), some (.int x2), some (.int x3)], [.ref x0], σ)) r48_5 rfl rfl <| Er.sT (c2 := (7, [some (.ref x0), some (.int x1), some (.int x2), some (.int x3)], [.int x3, .ref x0], σ)) r48_6 rfl rfl <| (Er.callx (vs := [.ref x0, .int x3]) (rest := []) r48_7 rfl rfl (Nat.le_of_ble_eq_true rfl) (Nat.le_of_ble_eq_true rfl) (fun _ => ⟨_, _, rfl, h1⟩) hx rfl rfl hy)
theorem b48_10 {d : Nat} {q : Rs} {x0 : Nat} {x1 : Int32} {x2 : Int32} {x3 : Int32} {σ : St} {σ2 : St}  (h1 : x0 < 24 ∧ kls x0 = 4)
    (hy : Er d 50 (0, ent 50 [.ref x0, .int x2, .ref (fr x0 3)], [], σ) (.inl none, σ2, 0))
    (k : Er (d + 1) 48 (19, [some (.ref x0), some (.int x1), some (.int x2), some (.int x3)], [], σ2) q) :
    Er (d + 1) 48 (10, [some (.ref x0), some (.int x1), some (.int x2), some (.int x3)], [], σ) q := Er.sT (c2 := (11, [some (.ref x0), some (.int x1), some (.int x2), some (.int x3)], [.ref x0], σ)) r48_10 rfl rfl <| Er.sT (c2 := (12, [some (.ref x0), some (.int x1), some (.int x2), some (.int x3)], [.int x2, .ref x0], σ)) r48_11 rfl rfl <| Er.sT (c2 := (13, [some (.ref x0), some (.int x1), some (.int x2), some (.int x3)], [.ref x0, .int x2, .ref x0], σ)) r48_12 rfl rfl <| Er.st (P := (x0 < 24 ∧ kls x0 = 4)) (c2 := (16, [some (.ref x0), some (.int x1), some (.int x2), some (.int x3)], [.ref (fr x0 3), .int x2, .ref x0], σ)) r48_13 rfl rfl h1 <| (Er.call (vs := [.ref x0, .int x2, .ref (fr x0 3)]) (rest := []) r48_16 rfl rfl (Nat.le_of_ble_eq_true rfl) (Nat.le_of_ble_eq_true rfl) (fun _ => ⟨_, _, rfl, h1⟩) hy k)
theorem b48_19 {d : Nat} {q : Rs} {x0 : Nat} {x1 : Int32} {x2 : Int32} {x3 : Int32} {σ : St} {σ2 : St}  (h1 : x0 < 24 ∧ kls x0 = 4)
    (hy : Er d 50 (0, ent 50 [.ref x0, .int x3, .ref (fr x0 4)], [], σ) (.inl none, σ2, 0))
    (k : Er (d + 1) 48 (28, [some (.ref x0), some (.int x1), some (.int x2), some (.int x3)], [], σ2) q) :
    Er (d + 1) 48 (19, [some (.ref x0), some (.int x1), some (.int x2), some (.int x3)], [], σ) q := Er.sT (c2 := (20, [some (.ref x0), some (.int x1), some (.int x2), some (.int x3)], [.ref x0], σ)) r48_19 rfl rfl <| Er.sT (c2 := (21, [some (.ref x0), some (.int x1), some (.int x2), some (.int x3)], [.int x3, .ref x0], σ)) r48_20 rfl rfl <| Er.sT (c2 := (22, [some (.ref x0), some (.int x1), some (.int x2), some (.int x3)], [.ref x0, .int x3, .ref x0], σ)) r48_21 rfl rfl <| Er.st (P := (x0 < 24 ∧ kls x0 = 4)) (c2 := (25, [some (.ref x0), some (.int x1), some (.int x2), some (.int x3)], [.ref (fr x0 4), .int x3, .ref x0], σ)) r48_22 rfl rfl h1 <| (Er.call (vs := [.ref x0, .int x3, .ref (fr x0 4)]) (rest := []) r48_25 rfl rfl (Nat.le_of_ble_eq_true rfl) (Nat.le_of_ble_eq_true rfl) (fun _ => ⟨_, _, rfl, h1⟩) hy k)
theorem b48_28 {d : Nat} {q : Rs} {x0 : Nat} {x1 : Int32} {x2 : Int32} {x3 : Int32} {σ : St} {σ2 : St}  (h1 : x0 < 24 ∧ kls x0 = 4)
    (hy : Er d 51 (0, ent 51 [.ref x0, .int x1], [], σ) (.inl none, σ2, 0))
    (k : Er (d + 1) 48 (33, [some (.ref x0), some (.int x1), some (.int x2), some (.int x3)], [], σ2) q) :
    Er (d + 1) 48 (28, [some (.ref x0), some (.int x1), some (.int x2), some (.int x3)], [], σ) q := Er.sT (c2 := (29, [some (.ref x0), some (.int x1), some (.int x2), some (.int x3)], [.ref x0], σ)) r48_28 rfl rfl <| Er.sT (c2 := (30, [some (.ref x0), some (.int x1), some (.int x2), some (.int x3)], [.int x1, .ref x0], σ)) r48_29 rfl rfl <| (Er.call (vs := [.ref x0, .int x1]) (rest := []) r48_30 rfl rfl (Nat.le_of_ble_eq_true rfl) (Nat.le_of_ble_eq_true rfl) (fun _ => ⟨_, _, rfl, h1⟩) hy k)
theorem b48_28x {d x c9 : Nat} {x0 : Nat} {x1 : Int32} {x2 : Int32} {x3 : Int32} {σ : St} {σ2 : St} (h1 : x0 < 24 ∧ kls x0 = 4) (hx : x < 4)
    (hy : Er d 51 (0, ent 51 [.ref x0, .int x1], [], σ) (.inr x, σ2, c9)) :
    Er (d + 1) 48 (28, [some (.ref x0), some (.int x1), some (.int x2), some (.int x3)], [], σ) (.inr x, σ2, c9) := Er.sT (c2 := (29, [some (.ref x0), some (.int x1), some (.int x2), some (.int x3)], [.ref x0], σ)) r48_28 rfl rfl <| Er.sT (c2 := (30, [some (.ref x0), some (.int x1), some (.int x2), some (.int x3)], [.int x1, .ref x0], σ)) r48_29 rfl rfl <| (Er.callx (vs := [.ref x0, .int x1]) (rest := []) r48_30 rfl rfl (Nat.le_of_ble_eq_true rfl) (Nat.le_of_ble_eq_true rfl) (fun _ => ⟨_, _, rfl, h1⟩) hx rfl rfl hy)
theorem b48_33 {d : Nat} {q : Rs} {x0 : Nat} {x1 : Int32} {x2 : Int32} {x3 : Int32} {σ : St} {σ2 : St}  (h1 : x0 < 24 ∧ kls x0 = 4)
    (hy : Er d 52 (0, ent 52 [.ref x0, .int x1], [], σ) (.inl none, σ2, 0))
    (k : Er (d + 1) 48 (38, [some (.ref x0), some (.int x1), some (.int x2), some (.int x3)], [], σ2) q) :
    Er (d + 1) 48 (33, [some (.ref x0), some (.int x1), some (.int x2), some (.int x3)], [], σ) q := Er.sT (c2 := (34, [some (.ref x0), some (.int x1), some (.int x2), some (.int x3)], [.ref x0], σ)) r48_33 rfl rfl <| Er.sT (c2 := (35, [some (.ref x0), some (.int x1), some (.int x2), some (.int x3)], [.int x1, .ref x0], σ)) r48_34 rfl rfl <| (Er.call (vs := [.ref x0, .int x1]) (rest := []) r48_35 rfl rfl (Nat.le_of_ble_eq_true rfl) (Nat.le_of_ble_eq_true rfl) (fun _ => ⟨_, _, rfl, h1⟩) hy k)
theorem b48_33x {d x c9 : Nat} {x0 : Nat} {x1 : Int32} {x2 : Int32} {x3 : Int32} {σ : St} {σ2 : St} (h1 : x0 < 24 ∧ kls x0 = 4) (hx : x < 4)
    (hy : Er d 52 (0, ent 52 [.ref x0, .int x1], [], σ) (.inr x, σ2, c9)) :
    Er (d + 1) 48 (33, [some (.ref x0), some (.int x1), some (.int x2), some (.int x3)], [], σ) (.inr x, σ2, c9) := Er.sT (c2 := (34, [some (.ref x0), some (.int x1), some (.int x2), some (.int x3)], [.ref x0], σ)) r48_33 rfl rfl <| Er.sT (c2 := (35, [some (.ref x0), some (.int x1), some (.int x2), some (.int x3)], [.int x1, .ref x0], σ)) r48_34 rfl rfl <| (Er.callx (vs := [.ref x0, .int x1]) (rest := []) r48_35 rfl rfl (Nat.le_of_ble_eq_true rfl) (Nat.le_of_ble_eq_true rfl) (fun _ => ⟨_, _, rfl, h1⟩) hx rfl rfl hy)
theorem b48_38 {d : Nat} {q : Rs} {x0 : Nat} {x1 : Int32} {x2 : Int32} {x3 : Int32} {σ : St} {σ2 : St}  (h1 : x0 < 24 ∧ kls x0 = 4)
    (hy : Er d 53 (0, ent 53 [.ref x0, .int x1], [], σ) (.inl none, σ2, 0))
    (k : Er (d + 1) 48 (43, [some (.ref x0), some (.int x1), some (.int x2), some (.int x3)], [], σ2) q) :
    Er (d + 1) 48 (38, [some (.ref x0), some (.int x1), some (.int x2), some (.int x3)], [], σ) q := Er.sT (c2 := (39, [some (.ref x0), some (.int x1), some (.int x2), some (.int x3)], [.ref x0], σ)) r48_38 rfl rfl <| Er.sT (c2 := (40, [some (.ref x0), some (.int x1), some (.int x2), some (.int x3)], [.int x1, .ref x0], σ)) r48_39 rfl rfl <| (Er.call (vs := [.ref x0, .int x1]) (rest := []) r48_40 rfl rfl (Nat.le_of_ble_eq_true rfl) (Nat.le_of_ble_eq_true rfl) (fun _ => ⟨_, _, rfl, h1⟩) hy k)
theorem b48_38x {d x c9 : Nat} {x0 : Nat} {x1 : Int32} {x2 : Int32} {x3 : Int32} {σ : St} {σ2 : St} (h1 : x0 < 24 ∧ kls x0 = 4) (hx : x < 4)
    (hy : Er d 53 (0, ent 53 [.ref x0, .int x1], [], σ) (.inr x, σ2, c9)) :
    Er (d + 1) 48 (38, [some (.ref x0), some (.int x1), some (.int x2), some (.int x3)], [], σ) (.inr x, σ2, c9) := Er.sT (c2 := (39, [some (.ref x0), some (.int x1), some (.int x2), some (.int x3)], [.ref x0], σ)) r48_38 rfl rfl <| Er.sT (c2 := (40, [some (.ref x0), some (.int x1), some (.int x2), some (.int x3)], [.int x1, .ref x0], σ)) r48_39 rfl rfl <| (Er.callx (vs := [.ref x0, .int x1]) (rest := []) r48_40 rfl rfl (Nat.le_of_ble_eq_true rfl) (Nat.le_of_ble_eq_true rfl) (fun _ => ⟨_, _, rfl, h1⟩) hx rfl rfl hy)
theorem b48_43 {d : Nat} {q : Rs} {x0 : Nat} {x1 : Int32} {x2 : Int32} {x3 : Int32} {σ : St} 
    (kt : (7 : Int32) < x1 → Er (d + 1) 48 (53, [some (.ref x0), some (.int x1), some (.int x2), some (.int x3)], [], σ) q)
    (kf : ¬ (7 : Int32) < x1 → Er (d + 1) 48 (49, [some (.ref x0), some (.int x1), some (.int x2), some (.int x3)], [], σ) q) :
    Er (d + 1) 48 (43, [some (.ref x0), some (.int x1), some (.int x2), some (.int x3)], [], σ) q := Er.sT (c2 := (44, [some (.ref x0), some (.int x1), some (.int x2), some (.int x3)], [.int x1], σ)) r48_43 rfl rfl <| Er.sT (c2 := (46, [some (.ref x0), some (.int x1), some (.int x2), some (.int x3)], [.int (7 : Int32), .int x1], σ)) r48_44 rfl rfl <| Er.sT (c2 := (brn .gt x1 (7 : Int32) 53 49, [some (.ref x0), some (.int x1), some (.int x2), some (.int x3)], [], σ)) r48_46 rfl rfl <| (br_gt kt kf)
theorem b48_49 {d : Nat} {q : Rs} {x0 : Nat} {x1 : Int32} {x2 : Int32} {x3 : Int32} {σ : St} {σ2 : St}  (h1 : x0 < 24 ∧ kls x0 = 4)
    (hy : Er d 46 (0, ent 46 [.ref x0], [], σ) (.inl none, σ2, 0))
    (k : Er (d + 1) 48 (53, [some (.ref x0), some (.int x1), some (.int x2), some (.int x3)], [], σ2) q) :
    Er (d + 1) 48 (49, [some (.ref x0), some (.int x1), some (.int x2), some (.int x3)], [], σ) q := Er.sT (c2 := (50, [some (.ref x0), some (.int x1), some (.int x2), some (.int x3)], [.ref x0], σ)) r48_49 rfl rfl <| (Er.call (vs := [.ref x0]) (rest := []) r48_50 rfl rfl (Nat.le_of_ble_eq_true rfl) (Nat.le_of_ble_eq_true rfl) (fun _ => ⟨_, _, rfl, h1⟩) hy k)
theorem b48_53 {d : Nat} {q : Rs} {x0 : Nat} {x1 : Int32} {x2 : Int32} {x3 : Int32} {σ : St} {σ2 : St} {r : Int32} (h1 : x0 < 24 ∧ kls x0 = 4)
    (hy : Er d 42 (0, ent 42 [.ref x0], [], σ) (.inl (some (.int r)), σ2, 0))
    (k : Er (d + 1) 48 (57, [some (.ref x0), some (.int x1), some (.int x2), some (.int x3)], [.int r], σ2) q) :
    Er (d + 1) 48 (53, [some (.ref x0), some (.int x1), some (.int x2), some (.int x3)], [], σ) q := Er.sT (c2 := (54, [some (.ref x0), some (.int x1), some (.int x2), some (.int x3)], [.ref x0], σ)) r48_53 rfl rfl <| (Er.call (vs := [.ref x0]) (rest := []) r48_54 rfl rfl (Nat.le_of_ble_eq_true rfl) (Nat.le_of_ble_eq_true rfl) (fun _ => ⟨_, _, rfl, h1⟩) hy k)
theorem b48_53x {d x c9 : Nat} {x0 : Nat} {x1 : Int32} {x2 : Int32} {x3 : Int32} {σ : St} {σ2 : St} (h1 : x0 < 24 ∧ kls x0 = 4) (hx : x < 4)
    (hy : Er d 42 (0, ent 42 [.ref x0], [], σ) (.inr x, σ2, c9)) :
    Er (d + 1) 48 (53, [some (.ref x0), some (.int x1), some (.int x2), some (.int x3)], [], σ) (.inr x, σ2, c9) := Er.sT (c2 := (54, [some (.ref x0), some (.int x1), some (.int x2), some (.int x3)], [.ref x0], σ)) r48_53 rfl rfl <| (Er.callx (vs := [.ref x0]) (rest := []) r48_54 rfl rfl (Nat.le_of_ble_eq_true rfl) (Nat.le_of_ble_eq_true rfl) (fun _ => ⟨_, _, rfl, h1⟩) hx rfl rfl hy)
theorem b48_57 {d : Nat} {x0 : Nat} {x1 : Int32} {x2 : Int32} {x3 : Int32} {s0 : Int32} {σ : St}  :
    Er (d + 1) 48 (57, [some (.ref x0), some (.int x1), some (.int x2), some (.int x3)], [.int s0], σ) (.inl (some (.int s0)), σ, 0) := (Er.ret r48_57 rfl ⟨_, _, rfl, rfl, rfl, rfl⟩)
/-! NumberModels.needNumber(I)V -/
theorem tab_49 : tab 49 = tb49_0 := rfl
theorem ch49_0 {j : Nat} {r : Row} (h : tb49_0[j]? = some r) : rowAt 49 r.1 = some r := row_mem 49 (by decide) (by rw [tab_49]; exact List.mem_of_getElem? h)
theorem r49_0 : rowAt 49 0 = some (ra 0 1 (.iload_n 1) 1 0 0) := ch49_0 (j := 0) rfl
theorem r49_1 : rowAt 49 1 = some (ra 1 4 (.ifCond .lt 17) 18 0 0) := ch49_0 (j := 1) rfl
theorem r49_4 : rowAt 49 4 = some (ra 4 5 (.iload_n 1) 1 0 0) := ch49_0 (j := 2) rfl
theorem r49_5 : rowAt 49 5 = some (r0 5 6 (.aload_n 0)) := ch49_0 (j := 3) rfl
theorem r49_6 : rowAt 49 6 = some (ra 6 9 (.getfield 54) 2 4 192) := ch49_0 (j := 4) rfl
theorem r49_9 : rowAt 49 9 = some (ra 9 12 (.if_icmp .ge 9) 18 0 0) := ch49_0 (j := 5) rfl
theorem r49_12 : rowAt 49 12 = some (ra 12 13 (.iload_n 1) 1 0 0) := ch49_0 (j := 6) rfl
theorem r49_13 : rowAt 49 13 = some (13, 15, .bipush 60, 0, 0, 0, 60, 0) := ch49_0 (j := 7) rfl
theorem r49_15 : rowAt 49 15 = some (ra 15 18 (.if_icmp .lt 13) 28 0 0) := ch49_0 (j := 8) rfl
theorem r49_18 : rowAt 49 18 = some (ra 18 21 (.new 139) 0 5 560) := ch49_0 (j := 9) rfl
theorem r49_28 : rowAt 49 28 = some (r0 28 29 (.return_)) := ch49_0 (j := 10) rfl
theorem b49_0 {d : Nat} {q : Rs} {x0 : Nat} {x1 : Int32} {σ : St} 
    (kt : x1 < (0 : Int32) → Er (d + 1) 49 (18, [some (.ref x0), some (.int x1)], [], σ) q)
    (kf : ¬ x1 < (0 : Int32) → Er (d + 1) 49 (4, [some (.ref x0), some (.int x1)], [], σ) q) :
    Er (d + 1) 49 (0, [some (.ref x0), some (.int x1)], [], σ) q := Er.sT (c2 := (1, [some (.ref x0), some (.int x1)], [.int x1], σ)) r49_0 rfl rfl <| Er.sT (c2 := (brn .lt x1 (0 : Int32) 18 4, [some (.ref x0), some (.int x1)], [], σ)) r49_1 rfl rfl <| (br_lt kt kf)
theorem b49_4 {d : Nat} {q : Rs} {x0 : Nat} {x1 : Int32} {σ : St} (h1 : x0 < 24 ∧ kls x0 = 4)
    (kt : (gfi σ x0 2) ≤ x1 → Er (d + 1) 49 (18, [some (.ref x0), some (.int x1)], [], σ) q)
    (kf : ¬ (gfi σ x0 2) ≤ x1 → Er (d + 1) 49 (12, [some (.ref x0), some (.int x1)], [], σ) q) :
    Er (d + 1) 49 (4, [some (.ref x0), some (.int x1)], [], σ) q := Er.sT (c2 := (5, [some (.ref x0), some (.int x1)], [.int x1], σ)) r49_4 rfl rfl <| Er.sT (c2 := (6, [some (.ref x0), some (.int x1)], [.ref x0, .int x1], σ)) r49_5 rfl rfl <| Er.st (P := (x0 < 24 ∧ kls x0 = 4)) (c2 := (9, [some (.ref x0), some (.int x1)], [.int (gfi σ x0 2), .int x1], σ)) r49_6 rfl rfl h1 <| Er.sT (c2 := (brn .ge x1 (gfi σ x0 2) 18 12, [some (.ref x0), some (.int x1)], [], σ)) r49_9 rfl rfl <| (br_ge kt kf)
theorem b49_12 {d : Nat} {q : Rs} {x0 : Nat} {x1 : Int32} {σ : St} 
    (kt : x1 < (60 : Int32) → Er (d + 1) 49 (28, [some (.ref x0), some (.int x1)], [], σ) q)
    (kf : ¬ x1 < (60 : Int32) → Er (d + 1) 49 (18, [some (.ref x0), some (.int x1)], [], σ) q) :
    Er (d + 1) 49 (12, [some (.ref x0), some (.int x1)], [], σ) q := Er.sT (c2 := (13, [some (.ref x0), some (.int x1)], [.int x1], σ)) r49_12 rfl rfl <| Er.sT (c2 := (15, [some (.ref x0), some (.int x1)], [.int (60 : Int32), .int x1], σ)) r49_13 rfl rfl <| Er.sT (c2 := (brn .lt x1 (60 : Int32) 28 18, [some (.ref x0), some (.int x1)], [], σ)) r49_15 rfl rfl <| (br_lt kt kf)
theorem b49_18 {d : Nat} {x0 : Nat} {x1 : Int32} {σ : St}  :
    Er (d + 6) 49 (18, [some (.ref x0), some (.int x1)], [], σ) (.inr 0, σ, 1) := (Er.thr r49_18 rfl rfl)
theorem b49_28 {d : Nat} {x0 : Nat} {x1 : Int32} {σ : St}  :
    Er (d + 1) 49 (28, [some (.ref x0), some (.int x1)], [], σ) (.inl none, σ, 0) := (Er.ret r49_28 rfl ⟨rfl, rfl, rfl⟩)
/-! NumberModels.read(ILNumberModels$Ratio;)V -/
theorem tab_50 : tab 50 = tb50_0 := rfl
theorem ch50_0 {j : Nat} {r : Row} (h : tb50_0[j]? = some r) : rowAt 50 r.1 = some r := row_mem 50 (by decide) (by rw [tab_50]; exact List.mem_of_getElem? h)
theorem r50_0 : rowAt 50 0 = some (ra 0 1 (.aload_n 2) 2 0 0) := ch50_0 (j := 0) rfl
theorem r50_1 : rowAt 50 1 = some (r0 1 2 (.aload_n 0)) := ch50_0 (j := 1) rfl
theorem r50_2 : rowAt 50 2 = some (ra 2 5 (.getfield 13) 1 4 191) := ch50_0 (j := 2) rfl
theorem r50_5 : rowAt 50 5 = some (ra 5 6 (.iload_n 1) 1 0 0) := ch50_0 (j := 3) rfl
theorem r50_6 : rowAt 50 6 = some (r0 6 7 (.iaload)) := ch50_0 (j := 4) rfl
theorem r50_7 : rowAt 50 7 = some (ra 7 10 (.putfield 62) 2 3 126) := ch50_0 (j := 5) rfl
theorem r50_10 : rowAt 50 10 = some (ra 10 11 (.aload_n 2) 2 0 0) := ch50_0 (j := 6) rfl
theorem r50_11 : rowAt 50 11 = some (ra 11 14 (.getfield 65) 0 3 122) := ch50_0 (j := 7) rfl
theorem r50_14 : rowAt 50 14 = some (r0 14 15 (.aload_n 0)) := ch50_0 (j := 8) rfl
theorem r50_15 : rowAt 50 15 = some (ra 15 18 (.getfield 9) 0 4 190) := ch50_0 (j := 9) rfl
theorem r50_18 : rowAt 50 18 = some (ra 18 19 (.iload_n 1) 1 0 0) := ch50_0 (j := 10) rfl
theorem r50_19 : rowAt 50 19 = some (19, 21, .bipush 16, 0, 0, 0, 16, 0) := ch50_0 (j := 11) rfl
theorem r50_21 : rowAt 50 21 = some (r0 21 22 (.imul)) := ch50_0 (j := 12) rfl
theorem r50_22 : rowAt 50 22 = some (ra 22 25 (.invokevirtual 245) 26 3 580) := ch50_0 (j := 13) rfl
theorem r50_25 : rowAt 50 25 = some (ra 25 26 (.aload_n 2) 2 0 0) := ch50_0 (j := 14) rfl
theorem r50_26 : rowAt 50 26 = some (ra 26 29 (.getfield 76) 1 3 124) := ch50_0 (j := 15) rfl
theorem r50_29 : rowAt 50 29 = some (r0 29 30 (.aload_n 0)) := ch50_0 (j := 16) rfl
theorem r50_30 : rowAt 50 30 = some (ra 30 33 (.getfield 9) 0 4 190) := ch50_0 (j := 17) rfl
theorem r50_33 : rowAt 50 33 = some (ra 33 34 (.iload_n 1) 1 0 0) := ch50_0 (j := 18) rfl
theorem r50_34 : rowAt 50 34 = some (34, 36, .bipush 16, 0, 0, 0, 16, 0) := ch50_0 (j := 19) rfl
theorem r50_36 : rowAt 50 36 = some (r0 36 37 (.imul)) := ch50_0 (j := 20) rfl
theorem r50_37 : rowAt 50 37 = some (37, 39, .bipush 8, 0, 0, 0, 8, 0) := ch50_0 (j := 21) rfl
theorem r50_39 : rowAt 50 39 = some (r0 39 40 (.iadd)) := ch50_0 (j := 22) rfl
theorem r50_40 : rowAt 50 40 = some (ra 40 43 (.invokevirtual 245) 26 3 580) := ch50_0 (j := 23) rfl
theorem r50_43 : rowAt 50 43 = some (r0 43 44 (.return_)) := ch50_0 (j := 24) rfl
theorem b50_0 {d : Nat} {q : Rs} {x0 : Nat} {x1 : Int32} {x2 : Nat} {σ : St} {σ2 : St}  (h1 : x0 < 24 ∧ kls x0 = 4) (h2 : ¬ (fr x0 1) = 48) (h3 : ((fr x0 1) = 41 ∨ (fr x0 1) = 42) ∧ vp_in x1 (ale (fr x0 1))) (h4 : x2 < 24 ∧ kls x2 = 3 ∧ ft 3 2 = 0) (h5 : x2 < 24 ∧ kls x2 = 3) (h6 : (fr x2 0) < 24 ∧ kls (fr x2 0) = 2)
    (hy : Er d 26 (0, ent 26 [.ref (fr x2 0), .ref (fr x0 0), .int (x1 * (16 : Int32))], [], (sfi σ x2 2 (gai σ (fr x0 1) x1.toNatClampNeg))) (.inl none, σ2, 0))
    (k : Er (d + 1) 50 (25, [some (.ref x0), some (.int x1), some (.ref x2)], [], σ2) q) :
    Er (d + 1) 50 (0, [some (.ref x0), some (.int x1), some (.ref x2)], [], σ) q := Er.sT (c2 := (1, [some (.ref x0), some (.int x1), some (.ref x2)], [.ref x2], σ)) r50_0 rfl rfl <| Er.sT (c2 := (2, [some (.ref x0), some (.int x1), some (.ref x2)], [.ref x0, .ref x2], σ)) r50_1 rfl rfl <| Er.st (P := (x0 < 24 ∧ kls x0 = 4)) (c2 := (5, [some (.ref x0), some (.int x1), some (.ref x2)], [.ref (fr x0 1), .ref x2], σ)) r50_2 rfl rfl h1 <| Er.sT (c2 := (6, [some (.ref x0), some (.int x1), some (.ref x2)], [.int x1, .ref (fr x0 1), .ref x2], σ)) r50_5 rfl rfl <| Er.st (P := (((fr x0 1) = 41 ∨ (fr x0 1) = 42) ∧ vp_in x1 (ale (fr x0 1)))) (c2 := (7, [some (.ref x0), some (.int x1), some (.ref x2)], [.int (gai σ (fr x0 1) x1.toNatClampNeg), .ref x2], σ)) r50_6 rfl (if_neg h2) h3 <| Er.st (P := (x2 < 24 ∧ kls x2 = 3 ∧ ft 3 2 = 0)) (c2 := (10, [some (.ref x0), some (.int x1), some (.ref x2)], [], (sfi σ x2 2 (gai σ (fr x0 1) x1.toNatClampNeg)))) r50_7 rfl rfl h4 <| Er.sT (c2 := (11, [some (.ref x0), some (.int x1), some (.ref x2)], [.ref x2], (sfi σ x2 2 (gai σ (fr x0 1) x1.toNatClampNeg)))) r50_10 rfl rfl <| Er.st (P := (x2 < 24 ∧ kls x2 = 3)) (c2 := (14, [some (.ref x0), some (.int x1), some (.ref x2)], [.ref (fr x2 0)], (sfi σ x2 2 (gai σ (fr x0 1) x1.toNatClampNeg)))) r50_11 rfl rfl h5 <| Er.sT (c2 := (15, [some (.ref x0), some (.int x1), some (.ref x2)], [.ref x0, .ref (fr x2 0)], (sfi σ x2 2 (gai σ (fr x0 1) x1.toNatClampNeg)))) r50_14 rfl rfl <| Er.st (P := (x0 < 24 ∧ kls x0 = 4)) (c2 := (18, [some (.ref x0), some (.int x1), some (.ref x2)], [.ref (fr x0 0), .ref (fr x2 0)], (sfi σ x2 2 (gai σ (fr x0 1) x1.toNatClampNeg)))) r50_15 rfl rfl h1 <| Er.sT (c2 := (19, [some (.ref x0), some (.int x1), some (.ref x2)], [.int x1, .ref (fr x0 0), .ref (fr x2 0)], (sfi σ x2 2 (gai σ (fr x0 1) x1.toNatClampNeg)))) r50_18 rfl rfl <| Er.sT (c2 := (21, [some (.ref x0), some (.int x1), some (.ref x2)], [.int (16 : Int32), .int x1, .ref (fr x0 0), .ref (fr x2 0)], (sfi σ x2 2 (gai σ (fr x0 1) x1.toNatClampNeg)))) r50_19 rfl rfl <| Er.sT (c2 := (22, [some (.ref x0), some (.int x1), some (.ref x2)], [.int (x1 * (16 : Int32)), .ref (fr x0 0), .ref (fr x2 0)], (sfi σ x2 2 (gai σ (fr x0 1) x1.toNatClampNeg)))) r50_21 rfl rfl <| (Er.call (vs := [.ref (fr x2 0), .ref (fr x0 0), .int (x1 * (16 : Int32))]) (rest := []) r50_22 rfl rfl (Nat.le_of_ble_eq_true rfl) (Nat.le_of_ble_eq_true rfl) (fun _ => ⟨_, _, rfl, h6⟩) hy k)
theorem b50_25 {d : Nat} {q : Rs} {x0 : Nat} {x1 : Int32} {x2 : Nat} {σ : St} {σ2 : St}  (h1 : x2 < 24 ∧ kls x2 = 3) (h2 : x0 < 24 ∧ kls x0 = 4) (h3 : (fr x2 1) < 24 ∧ kls (fr x2 1) = 2)
    (hy : Er d 26 (0, ent 26 [.ref (fr x2 1), .ref (fr x0 0), .int ((x1 * (16 : Int32)) + (8 : Int32))], [], σ) (.inl none, σ2, 0))
    (k : Er (d + 1) 50 (43, [some (.ref x0), some (.int x1), some (.ref x2)], [], σ2) q) :
    Er (d + 1) 50 (25, [some (.ref x0), some (.int x1), some (.ref x2)], [], σ) q := Er.sT (c2 := (26, [some (.ref x0), some (.int x1), some (.ref x2)], [.ref x2], σ)) r50_25 rfl rfl <| Er.st (P := (x2 < 24 ∧ kls x2 = 3)) (c2 := (29, [some (.ref x0), some (.int x1), some (.ref x2)], [.ref (fr x2 1)], σ)) r50_26 rfl rfl h1 <| Er.sT (c2 := (30, [some (.ref x0), some (.int x1), some (.ref x2)], [.ref x0, .ref (fr x2 1)], σ)) r50_29 rfl rfl <| Er.st (P := (x0 < 24 ∧ kls x0 = 4)) (c2 := (33, [some (.ref x0), some (.int x1), some (.ref x2)], [.ref (fr x0 0), .ref (fr x2 1)], σ)) r50_30 rfl rfl h2 <| Er.sT (c2 := (34, [some (.ref x0), some (.int x1), some (.ref x2)], [.int x1, .ref (fr x0 0), .ref (fr x2 1)], σ)) r50_33 rfl rfl <| Er.sT (c2 := (36, [some (.ref x0), some (.int x1), some (.ref x2)], [.int (16 : Int32), .int x1, .ref (fr x0 0), .ref (fr x2 1)], σ)) r50_34 rfl rfl <| Er.sT (c2 := (37, [some (.ref x0), some (.int x1), some (.ref x2)], [.int (x1 * (16 : Int32)), .ref (fr x0 0), .ref (fr x2 1)], σ)) r50_36 rfl rfl <| Er.sT (c2 := (39, [some (.ref x0), some (.int x1), some (.ref x2)], [.int (8 : Int32), .int (x1 * (16 : Int32)), .ref (fr x0 0), .ref (fr x2 1)], σ)) r50_37 rfl rfl <| Er.sT (c2 := (40, [some (.ref x0), some (.int x1), some (.ref x2)], [.int ((x1 * (16 : Int32)) + (8 : Int32)), .ref (fr x0 0), .ref (fr x2 1)], σ)) r50_39 rfl rfl <| (Er.call (vs := [.ref (fr x2 1), .ref (fr x0 0), .int ((x1 * (16 : Int32)) + (8 : Int32))]) (rest := []) r50_40 rfl rfl (Nat.le_of_ble_eq_true rfl) (Nat.le_of_ble_eq_true rfl) (fun _ => ⟨_, _, rfl, h3⟩) hy k)
theorem b50_43 {d : Nat} {x0 : Nat} {x1 : Int32} {x2 : Nat} {σ : St}  :
    Er (d + 1) 50 (43, [some (.ref x0), some (.int x1), some (.ref x2)], [], σ) (.inl none, σ, 0) := (Er.ret r50_43 rfl ⟨rfl, rfl, rfl⟩)
/-! NumberModels.needFitting(I)V -/
theorem tab_51 : tab 51 = tb51_0 := rfl
theorem ch51_0 {j : Nat} {r : Row} (h : tb51_0[j]? = some r) : rowAt 51 r.1 = some r := row_mem 51 (by decide) (by rw [tab_51]; exact List.mem_of_getElem? h)
theorem r51_0 : rowAt 51 0 = some (ra 0 1 (.iload_n 1) 1 0 0) := ch51_0 (j := 0) rfl
theorem r51_1 : rowAt 51 1 = some (ra 1 4 (.ifCond .lt 13) 14 0 0) := ch51_0 (j := 1) rfl
theorem r51_4 : rowAt 51 4 = some (ra 4 5 (.iload_n 1) 1 0 0) := ch51_0 (j := 2) rfl
theorem r51_5 : rowAt 51 5 = some (5, 7, .bipush 12, 0, 0, 0, 12, 0) := ch51_0 (j := 3) rfl
theorem r51_7 : rowAt 51 7 = some (ra 7 10 (.if_icmp .gt 7) 14 0 0) := ch51_0 (j := 4) rfl
theorem r51_10 : rowAt 51 10 = some (10, 11, .iconst 1, 0, 0, 0, 1, 0) := ch51_0 (j := 5) rfl
theorem r51_11 : rowAt 51 11 = some (ra 11 14 (.goto 4) 15 0 0) := ch51_0 (j := 6) rfl
theorem r51_14 : rowAt 51 14 = some (r0 14 15 (.iconst 0)) := ch51_0 (j := 7) rfl
theorem r51_15 : rowAt 51 15 = some (ra 15 16 (.istore_n 2) 2 0 0) := ch51_0 (j := 8) rfl
theorem r51_16 : rowAt 51 16 = some (ra 16 17 (.iload_n 1) 1 0 0) := ch51_0 (j := 9) rfl
theorem r51_17 : rowAt 51 17 = some (17, 19, .bipush 8, 0, 0, 0, 8, 0) := ch51_0 (j := 10) rfl
theorem r51_19 : rowAt 51 19 = some (ra 19 22 (.if_icmp .ne 32) 51 0 0) := ch51_0 (j := 11) rfl
theorem r51_22 : rowAt 51 22 = some (r0 22 23 (.aload_n 0)) := ch51_0 (j := 12) rfl
theorem r51_23 : rowAt 51 23 = some (ra 23 26 (.getfield 20) 3 4 193) := ch51_0 (j := 13) rfl
theorem r51_26 : rowAt 51 26 = some (ra 26 29 (.invokevirtual 229) 32 1 386) := ch51_0 (j := 14) rfl
theorem r51_29 : rowAt 51 29 = some (ra 29 32 (.ifCond .eq 17) 46 0 0) := ch51_0 (j := 15) rfl
theorem r51_32 : rowAt 51 32 = some (r0 32 33 (.aload_n 0)) := ch51_0 (j := 16) rfl
theorem r51_33 : rowAt 51 33 = some (ra 33 36 (.getfield 24) 4 4 194) := ch51_0 (j := 17) rfl
theorem r51_36 : rowAt 51 36 = some (ra 36 39 (.invokevirtual 229) 32 1 386) := ch51_0 (j := 18) rfl
theorem r51_39 : rowAt 51 39 = some (ra 39 42 (.ifCond .eq 7) 46 0 0) := ch51_0 (j := 19) rfl
theorem r51_42 : rowAt 51 42 = some (42, 43, .iconst 1, 0, 0, 0, 1, 0) := ch51_0 (j := 20) rfl
theorem r51_43 : rowAt 51 43 = some (ra 43 46 (.goto 4) 47 0 0) := ch51_0 (j := 21) rfl
theorem r51_46 : rowAt 51 46 = some (r0 46 47 (.iconst 0)) := ch51_0 (j := 22) rfl
theorem r51_47 : rowAt 51 47 = some (ra 47 48 (.istore_n 2) 2 0 0) := ch51_0 (j := 23) rfl
theorem r51_48 : rowAt 51 48 = some (ra 48 51 (.goto 40) 88 0 0) := ch51_0 (j := 24) rfl
theorem r51_51 : rowAt 51 51 = some (ra 51 52 (.iload_n 1) 1 0 0) := ch51_0 (j := 25) rfl
theorem r51_52 : rowAt 51 52 = some (52, 54, .bipush 9, 0, 0, 0, 9, 0) := ch51_0 (j := 26) rfl
theorem r51_54 : rowAt 51 54 = some (ra 54 57 (.if_icmp .ne 17) 71 0 0) := ch51_0 (j := 27) rfl
theorem r51_57 : rowAt 51 57 = some (r0 57 58 (.aload_n 0)) := ch51_0 (j := 28) rfl
theorem r51_58 : rowAt 51 58 = some (ra 58 61 (.getfield 24) 4 4 194) := ch51_0 (j := 29) rfl
theorem r51_61 : rowAt 51 61 = some (61, 64, .sipush 300, 0, 0, 0, 300, 0) := ch51_0 (j := 30) rfl
theorem r51_64 : rowAt 51 64 = some (ra 64 67 (.invokevirtual 232) 34 2 588) := ch51_0 (j := 31) rfl
theorem r51_67 : rowAt 51 67 = some (ra 67 68 (.istore_n 2) 2 0 0) := ch51_0 (j := 32) rfl
theorem r51_68 : rowAt 51 68 = some (ra 68 71 (.goto 20) 88 0 0) := ch51_0 (j := 33) rfl
theorem r51_71 : rowAt 51 71 = some (ra 71 72 (.iload_n 1) 1 0 0) := ch51_0 (j := 34) rfl
theorem r51_72 : rowAt 51 72 = some (72, 74, .bipush 10, 0, 0, 0, 10, 0) := ch51_0 (j := 35) rfl
theorem r51_74 : rowAt 51 74 = some (ra 74 77 (.if_icmp .ne 14) 88 0 0) := ch51_0 (j := 36) rfl
theorem r51_77 : rowAt 51 77 = some (r0 77 78 (.aload_n 0)) := ch51_0 (j := 37) rfl
theorem r51_78 : rowAt 51 78 = some (ra 78 81 (.getfield 24) 4 4 194) := ch51_0 (j := 38) rfl
theorem r51_81 : rowAt 51 81 = some (81, 84, .sipush 600, 0, 0, 0, 600, 0) := ch51_0 (j := 39) rfl
theorem r51_84 : rowAt 51 84 = some (ra 84 87 (.invokevirtual 232) 34 2 588) := ch51_0 (j := 40) rfl
theorem r51_87 : rowAt 51 87 = some (ra 87 88 (.istore_n 2) 2 0 0) := ch51_0 (j := 41) rfl
theorem r51_88 : rowAt 51 88 = some (ra 88 89 (.iload_n 2) 2 0 0) := ch51_0 (j := 42) rfl
theorem r51_89 : rowAt 51 89 = some (ra 89 92 (.ifCond .ne 13) 102 0 0) := ch51_0 (j := 43) rfl
theorem r51_92 : rowAt 51 92 = some (ra 92 95 (.new 147) 1 6 594) := ch51_0 (j := 44) rfl
theorem r51_102 : rowAt 51 102 = some (r0 102 103 (.return_)) := ch51_0 (j := 45) rfl
theorem b51_0 {d : Nat} {q : Rs} {x0 : Nat} {x1 : Int32} {σ : St} 
    (kt : x1 < (0 : Int32) → Er (d + 1) 51 (14, [some (.ref x0), some (.int x1), none], [], σ) q)
    (kf : ¬ x1 < (0 : Int32) → Er (d + 1) 51 (4, [some (.ref x0), some (.int x1), none], [], σ) q) :
    Er (d + 1) 51 (0, [some (.ref x0), some (.int x1), none], [], σ) q := Er.sT (c2 := (1, [some (.ref x0), some (.int x1), none], [.int x1], σ)) r51_0 rfl rfl <| Er.sT (c2 := (brn .lt x1 (0 : Int32) 14 4, [some (.ref x0), some (.int x1), none], [], σ)) r51_1 rfl rfl <| (br_lt kt kf)
theorem b51_4 {d : Nat} {q : Rs} {x0 : Nat} {x1 : Int32} {σ : St} 
    (kt : (12 : Int32) < x1 → Er (d + 1) 51 (14, [some (.ref x0), some (.int x1), none], [], σ) q)
    (kf : ¬ (12 : Int32) < x1 → Er (d + 1) 51 (10, [some (.ref x0), some (.int x1), none], [], σ) q) :
    Er (d + 1) 51 (4, [some (.ref x0), some (.int x1), none], [], σ) q := Er.sT (c2 := (5, [some (.ref x0), some (.int x1), none], [.int x1], σ)) r51_4 rfl rfl <| Er.sT (c2 := (7, [some (.ref x0), some (.int x1), none], [.int (12 : Int32), .int x1], σ)) r51_5 rfl rfl <| Er.sT (c2 := (brn .gt x1 (12 : Int32) 14 10, [some (.ref x0), some (.int x1), none], [], σ)) r51_7 rfl rfl <| (br_gt kt kf)
theorem b51_10 {d : Nat} {q : Rs} {x0 : Nat} {x1 : Int32} {σ : St} 
    (k : Er (d + 1) 51 (15, [some (.ref x0), some (.int x1), none], [.int (1 : Int32)], σ) q) :
    Er (d + 1) 51 (10, [some (.ref x0), some (.int x1), none], [], σ) q := Er.sT (c2 := (11, [some (.ref x0), some (.int x1), none], [.int (1 : Int32)], σ)) r51_10 rfl rfl <| Er.sT (c2 := (15, [some (.ref x0), some (.int x1), none], [.int (1 : Int32)], σ)) r51_11 rfl rfl <| k
theorem b51_14 {d : Nat} {q : Rs} {x0 : Nat} {x1 : Int32} {σ : St} 
    (k : Er (d + 1) 51 (15, [some (.ref x0), some (.int x1), none], [.int (0 : Int32)], σ) q) :
    Er (d + 1) 51 (14, [some (.ref x0), some (.int x1), none], [], σ) q := Er.sT (c2 := (15, [some (.ref x0), some (.int x1), none], [.int (0 : Int32)], σ)) r51_14 rfl rfl <| k
theorem b51_15 {d : Nat} {q : Rs} {x0 : Nat} {x1 : Int32} {s0 : Int32} {σ : St} 
    (kt : ¬ x1 = (8 : Int32) → Er (d + 1) 51 (51, [some (.ref x0), some (.int x1), some (.int s0)], [], σ) q)
    (kf : x1 = (8 : Int32) → Er (d + 1) 51 (22, [some (.ref x0), some (.int x1), some (.int s0)], [], σ) q) :
    Er (d + 1) 51 (15, [some (.ref x0), some (.int x1), none], [.int s0], σ) q := Er.sT (c2 := (16, [some (.ref x0), some (.int x1), some (.int s0)], [], σ)) r51_15 rfl rfl <| Er.sT (c2 := (17, [some (.ref x0), some (.int x1), some (.int s0)], [.int x1], σ)) r51_16 rfl rfl <| Er.sT (c2 := (19, [some (.ref x0), some (.int x1), some (.int s0)], [.int (8 : Int32), .int x1], σ)) r51_17 rfl rfl <| Er.sT (c2 := (brn .ne x1 (8 : Int32) 51 22, [some (.ref x0), some (.int x1), some (.int s0)], [], σ)) r51_19 rfl rfl <| (br_ne kt kf)
theorem b51_22 {d : Nat} {q : Rs} {x0 : Nat} {x1 : Int32} {x2 : Int32} {σ : St} {σ2 : St} {r : Int32} (h1 : x0 < 24 ∧ kls x0 = 4) (h2 : (fr x0 3) < 24 ∧ kls (fr x0 3) = 3)
    (hy : Er d 32 (0, ent 32 [.ref (fr x0 3)], [], σ) (.inl (some (.int r)), σ2, 0))
    (k : Er (d + 1) 51 (29, [some (.ref x0), some (.int x1), some (.int x2)], [.int r], σ2) q) :
    Er (d + 1) 51 (22, [some (.ref x0), some (.int x1), some (.int x2)], [], σ) q := Er.sT (c2 := (23, [some (.ref x0), some (.int x1), some (.int x2)], [.ref x0], σ)) r51_22 rfl rfl <| Er.st (P := (x0 < 24 ∧ kls x0 = 4)) (c2 := (26, [some (.ref x0), some (.int x1), some (.int x2)], [.ref (fr x0 3)], σ)) r51_23 rfl rfl h1 <| (Er.call (vs := [.ref (fr x0 3)]) (rest := []) r51_26 rfl rfl (Nat.le_of_ble_eq_true rfl) (Nat.le_of_ble_eq_true rfl) (fun _ => ⟨_, _, rfl, h2⟩) hy k)
theorem b51_29 {d : Nat} {q : Rs} {x0 : Nat} {x1 : Int32} {x2 : Int32} {s0 : Int32} {σ : St} 
    (kt : s0 = (0 : Int32) → Er (d + 1) 51 (46, [some (.ref x0), some (.int x1), some (.int x2)], [], σ) q)
    (kf : ¬ s0 = (0 : Int32) → Er (d + 1) 51 (32, [some (.ref x0), some (.int x1), some (.int x2)], [], σ) q) :
    Er (d + 1) 51 (29, [some (.ref x0), some (.int x1), some (.int x2)], [.int s0], σ) q := Er.sT (c2 := (brn .eq s0 (0 : Int32) 46 32, [some (.ref x0), some (.int x1), some (.int x2)], [], σ)) r51_29 rfl rfl <| (br_eq kt kf)
theorem b51_32 {d : Nat} {q : Rs} {x0 : Nat} {x1 : Int32} {x2 : Int32} {σ : St} {σ2 : St} {r : Int32} (h1 : x0 < 24 ∧ kls x0 = 4) (h2 : (fr x0 4) < 24 ∧ kls (fr x0 4) = 3)
    (hy : Er d 32 (0, ent 32 [.ref (fr x0 4)], [], σ) (.inl (some (.int r)), σ2, 0))
    (k : Er (d + 1) 51 (39, [some (.ref x0), some (.int x1), some (.int x2)], [.int r], σ2) q) :
    Er (d + 1) 51 (32, [some (.ref x0), some (.int x1), some (.int x2)], [], σ) q := Er.sT (c2 := (33, [some (.ref x0), some (.int x1), some (.int x2)], [.ref x0], σ)) r51_32 rfl rfl <| Er.st (P := (x0 < 24 ∧ kls x0 = 4)) (c2 := (36, [some (.ref x0), some (.int x1), some (.int x2)], [.ref (fr x0 4)], σ)) r51_33 rfl rfl h1 <| (Er.call (vs := [.ref (fr x0 4)]) (rest := []) r51_36 rfl rfl (Nat.le_of_ble_eq_true rfl) (Nat.le_of_ble_eq_true rfl) (fun _ => ⟨_, _, rfl, h2⟩) hy k)
theorem b51_39 {d : Nat} {q : Rs} {x0 : Nat} {x1 : Int32} {x2 : Int32} {s0 : Int32} {σ : St} 
    (kt : s0 = (0 : Int32) → Er (d + 1) 51 (46, [some (.ref x0), some (.int x1), some (.int x2)], [], σ) q)
    (kf : ¬ s0 = (0 : Int32) → Er (d + 1) 51 (42, [some (.ref x0), some (.int x1), some (.int x2)], [], σ) q) :
    Er (d + 1) 51 (39, [some (.ref x0), some (.int x1), some (.int x2)], [.int s0], σ) q := Er.sT (c2 := (brn .eq s0 (0 : Int32) 46 42, [some (.ref x0), some (.int x1), some (.int x2)], [], σ)) r51_39 rfl rfl <| (br_eq kt kf)
theorem b51_42 {d : Nat} {q : Rs} {x0 : Nat} {x1 : Int32} {x2 : Int32} {σ : St} 
    (k : Er (d + 1) 51 (47, [some (.ref x0), some (.int x1), some (.int x2)], [.int (1 : Int32)], σ) q) :
    Er (d + 1) 51 (42, [some (.ref x0), some (.int x1), some (.int x2)], [], σ) q := Er.sT (c2 := (43, [some (.ref x0), some (.int x1), some (.int x2)], [.int (1 : Int32)], σ)) r51_42 rfl rfl <| Er.sT (c2 := (47, [some (.ref x0), some (.int x1), some (.int x2)], [.int (1 : Int32)], σ)) r51_43 rfl rfl <| k
theorem b51_46 {d : Nat} {q : Rs} {x0 : Nat} {x1 : Int32} {x2 : Int32} {σ : St} 
    (k : Er (d + 1) 51 (47, [some (.ref x0), some (.int x1), some (.int x2)], [.int (0 : Int32)], σ) q) :
    Er (d + 1) 51 (46, [some (.ref x0), some (.int x1), some (.int x2)], [], σ) q := Er.sT (c2 := (47, [some (.ref x0), some (.int x1), some (.int x2)], [.int (0 : Int32)], σ)) r51_46 rfl rfl <| k
theorem b51_47 {d : Nat} {q : Rs} {x0 : Nat} {x1 : Int32} {x2 : Int32} {s0 : Int32} {σ : St} 
    (k : Er (d + 1) 51 (88, [some (.ref x0), some (.int x1), some (.int s0)], [], σ) q) :
    Er (d + 1) 51 (47, [some (.ref x0), some (.int x1), some (.int x2)], [.int s0], σ) q := Er.sT (c2 := (48, [some (.ref x0), some (.int x1), some (.int s0)], [], σ)) r51_47 rfl rfl <| Er.sT (c2 := (88, [some (.ref x0), some (.int x1), some (.int s0)], [], σ)) r51_48 rfl rfl <| k
theorem b51_51 {d : Nat} {q : Rs} {x0 : Nat} {x1 : Int32} {x2 : Int32} {σ : St} 
    (kt : ¬ x1 = (9 : Int32) → Er (d + 1) 51 (71, [some (.ref x0), some (.int x1), some (.int x2)], [], σ) q)
    (kf : x1 = (9 : Int32) → Er (d + 1) 51 (57, [some (.ref x0), some (.int x1), some (.int x2)], [], σ) q) :
    Er (d + 1) 51 (51, [some (.ref x0), some (.int x1), some (.int x2)], [], σ) q := Er.sT (c2 := (52, [some (.ref x0), some (.int x1), some (.int x2)], [.int x1], σ)) r51_51 rfl rfl <| Er.sT (c2 := (54, [some (.ref x0), some (.int x1), some (.int x2)], [.int (9 : Int32), .int x1], σ)) r51_52 rfl rfl <| Er.sT (c2 := (brn .ne x1 (9 : Int32) 71 57, [some (.ref x0), some (.int x1), some (.int x2)], [], σ)) r51_54 rfl rfl <| (br_ne kt kf)
theorem b51_57 {d : Nat} {q : Rs} {x0 : Nat} {x1 : Int32} {x2 : Int32} {σ : St} {σ2 : St} {r : Int32} (h1 : x0 < 24 ∧ kls x0 = 4) (h2 : (fr x0 4) < 24 ∧ kls (fr x0 4) = 3)
    (hy : Er d 34 (0, ent 34 [.ref (fr x0 4), .int (300 : Int32)], [], σ) (.inl (some (.int r)), σ2, 0))
    (k : Er (d + 1) 51 (67, [some (.ref x0), some (.int x1), some (.int x2)], [.int r], σ2) q) :
    Er (d + 1) 51 (57, [some (.ref x0), some (.int x1), some (.int x2)], [], σ) q := Er.sT (c2 := (58, [some (.ref x0), some (.int x1), some (.int x2)], [.ref x0], σ)) r51_57 rfl rfl <| Er.st (P := (x0 < 24 ∧ kls x0 = 4)) (c2 := (61, [some (.ref x0), some (.int x1), some (.int x2)], [.ref (fr x0 4)], σ)) r51_58 rfl rfl h1 <| Er.sT (c2 := (64, [some (.ref x0), some (.int x1), some (.int x2)], [.int (300 : Int32), .ref (fr x0 4)], σ)) r51_61 rfl rfl <| (Er.call (vs := [.ref (fr x0 4), .int (300 : Int32)]) (rest := []) r51_64 rfl rfl (Nat.le_of_ble_eq_true rfl) (Nat.le_of_ble_eq_true rfl) (fun _ => ⟨_, _, rfl, h2⟩) hy k)
theorem b51_67 {d : Nat} {q : Rs} {x0 : Nat} {x1 : Int32} {x2 : Int32} {s0 : Int32} {σ : St} 
    (k : Er (d + 1) 51 (88, [some (.ref x0), some (.int x1), some (.int s0)], [], σ) q) :
    Er (d + 1) 51 (67, [some (.ref x0), some (.int x1), some (.int x2)], [.int s0], σ) q := Er.sT (c2 := (68, [some (.ref x0), some (.int x1), some (.int s0)], [], σ)) r51_67 rfl rfl <| Er.sT (c2 := (88, [some (.ref x0), some (.int x1), some (.int s0)], [], σ)) r51_68 rfl rfl <| k
theorem b51_71 {d : Nat} {q : Rs} {x0 : Nat} {x1 : Int32} {x2 : Int32} {σ : St} 
    (kt : ¬ x1 = (10 : Int32) → Er (d + 1) 51 (88, [some (.ref x0), some (.int x1), some (.int x2)], [], σ) q)
    (kf : x1 = (10 : Int32) → Er (d + 1) 51 (77, [some (.ref x0), some (.int x1), some (.int x2)], [], σ) q) :
    Er (d + 1) 51 (71, [some (.ref x0), some (.int x1), some (.int x2)], [], σ) q := Er.sT (c2 := (72, [some (.ref x0), some (.int x1), some (.int x2)], [.int x1], σ)) r51_71 rfl rfl <| Er.sT (c2 := (74, [some (.ref x0), some (.int x1), some (.int x2)], [.int (10 : Int32), .int x1], σ)) r51_72 rfl rfl <| Er.sT (c2 := (brn .ne x1 (10 : Int32) 88 77, [some (.ref x0), some (.int x1), some (.int x2)], [], σ)) r51_74 rfl rfl <| (br_ne kt kf)
theorem b51_77 {d : Nat} {q : Rs} {x0 : Nat} {x1 : Int32} {x2 : Int32} {σ : St} {σ2 : St} {r : Int32} (h1 : x0 < 24 ∧ kls x0 = 4) (h2 : (fr x0 4) < 24 ∧ kls (fr x0 4) = 3)
    (hy : Er d 34 (0, ent 34 [.ref (fr x0 4), .int (600 : Int32)], [], σ) (.inl (some (.int r)), σ2, 0))
    (k : Er (d + 1) 51 (87, [some (.ref x0), some (.int x1), some (.int x2)], [.int r], σ2) q) :
    Er (d + 1) 51 (77, [some (.ref x0), some (.int x1), some (.int x2)], [], σ) q := Er.sT (c2 := (78, [some (.ref x0), some (.int x1), some (.int x2)], [.ref x0], σ)) r51_77 rfl rfl <| Er.st (P := (x0 < 24 ∧ kls x0 = 4)) (c2 := (81, [some (.ref x0), some (.int x1), some (.int x2)], [.ref (fr x0 4)], σ)) r51_78 rfl rfl h1 <| Er.sT (c2 := (84, [some (.ref x0), some (.int x1), some (.int x2)], [.int (600 : Int32), .ref (fr x0 4)], σ)) r51_81 rfl rfl <| (Er.call (vs := [.ref (fr x0 4), .int (600 : Int32)]) (rest := []) r51_84 rfl rfl (Nat.le_of_ble_eq_true rfl) (Nat.le_of_ble_eq_true rfl) (fun _ => ⟨_, _, rfl, h2⟩) hy k)
theorem b51_87 {d : Nat} {q : Rs} {x0 : Nat} {x1 : Int32} {x2 : Int32} {s0 : Int32} {σ : St} 
    (k : Er (d + 1) 51 (88, [some (.ref x0), some (.int x1), some (.int s0)], [], σ) q) :
    Er (d + 1) 51 (87, [some (.ref x0), some (.int x1), some (.int x2)], [.int s0], σ) q := Er.sT (c2 := (88, [some (.ref x0), some (.int x1), some (.int s0)], [], σ)) r51_87 rfl rfl <| k
theorem b51_88 {d : Nat} {q : Rs} {x0 : Nat} {x1 : Int32} {x2 : Int32} {σ : St} 
    (kt : ¬ x2 = (0 : Int32) → Er (d + 1) 51 (102, [some (.ref x0), some (.int x1), some (.int x2)], [], σ) q)
    (kf : x2 = (0 : Int32) → Er (d + 1) 51 (92, [some (.ref x0), some (.int x1), some (.int x2)], [], σ) q) :
    Er (d + 1) 51 (88, [some (.ref x0), some (.int x1), some (.int x2)], [], σ) q := Er.sT (c2 := (89, [some (.ref x0), some (.int x1), some (.int x2)], [.int x2], σ)) r51_88 rfl rfl <| Er.sT (c2 := (brn .ne x2 (0 : Int32) 102 92, [some (.ref x0), some (.int x1), some (.int x2)], [], σ)) r51_89 rfl rfl <| (br_ne kt kf)
theorem b51_92 {d : Nat} {x0 : Nat} {x1 : Int32} {x2 : Int32} {σ : St}  :
    Er (d + 6) 51 (92, [some (.ref x0), some (.int x1), some (.int x2)], [], σ) (.inr 1, σ, 1) := (Er.thr r51_92 rfl rfl)
theorem b51_102 {d : Nat} {x0 : Nat} {x1 : Int32} {x2 : Int32} {σ : St}  :
    Er (d + 1) 51 (102, [some (.ref x0), some (.int x1), some (.int x2)], [], σ) (.inl none, σ, 0) := (Er.ret r51_102 rfl ⟨rfl, rfl, rfl⟩)
/-! NumberModels.needDivisor(I)V -/
theorem tab_52 : tab 52 = tb52_0 := rfl
theorem ch52_0 {j : Nat} {r : Row} (h : tb52_0[j]? = some r) : rowAt 52 r.1 = some r := row_mem 52 (by decide) (by rw [tab_52]; exact List.mem_of_getElem? h)
theorem r52_0 : rowAt 52 0 = some (ra 0 1 (.iload_n 1) 1 0 0) := ch52_0 (j := 0) rfl
theorem r52_1 : rowAt 52 1 = some (1, 2, .iconst 3, 0, 0, 0, 3, 0) := ch52_0 (j := 1) rfl
theorem r52_2 : rowAt 52 2 = some (ra 2 5 (.if_icmp .lt 23) 25 0 0) := ch52_0 (j := 2) rfl
theorem r52_5 : rowAt 52 5 = some (ra 5 6 (.iload_n 1) 1 0 0) := ch52_0 (j := 3) rfl
theorem r52_6 : rowAt 52 6 = some (6, 8, .bipush 7, 0, 0, 0, 7, 0) := ch52_0 (j := 4) rfl
theorem r52_8 : rowAt 52 8 = some (ra 8 11 (.if_icmp .gt 17) 25 0 0) := ch52_0 (j := 5) rfl
theorem r52_11 : rowAt 52 11 = some (r0 11 12 (.aload_n 0)) := ch52_0 (j := 6) rfl
theorem r52_12 : rowAt 52 12 = some (ra 12 15 (.getfield 24) 4 4 194) := ch52_0 (j := 7) rfl
theorem r52_15 : rowAt 52 15 = some (ra 15 18 (.getfield 62) 2 3 126) := ch52_0 (j := 8) rfl
theorem r52_18 : rowAt 52 18 = some (ra 18 21 (.ifCond .ne 7) 25 0 0) := ch52_0 (j := 9) rfl
theorem r52_21 : rowAt 52 21 = some (21, 22, .iconst 1, 0, 0, 0, 1, 0) := ch52_0 (j := 10) rfl
theorem r52_22 : rowAt 52 22 = some (ra 22 25 (.goto 4) 26 0 0) := ch52_0 (j := 11) rfl
theorem r52_25 : rowAt 52 25 = some (r0 25 26 (.iconst 0)) := ch52_0 (j := 12) rfl
theorem r52_26 : rowAt 52 26 = some (ra 26 27 (.istore_n 2) 2 0 0) := ch52_0 (j := 13) rfl
theorem r52_27 : rowAt 52 27 = some (ra 27 28 (.iload_n 1) 1 0 0) := ch52_0 (j := 14) rfl
theorem r52_28 : rowAt 52 28 = some (28, 30, .bipush 9, 0, 0, 0, 9, 0) := ch52_0 (j := 15) rfl
theorem r52_30 : rowAt 52 30 = some (ra 30 33 (.if_icmp .ne 27) 57 0 0) := ch52_0 (j := 16) rfl
theorem r52_33 : rowAt 52 33 = some (r0 33 34 (.aload_n 0)) := ch52_0 (j := 17) rfl
theorem r52_34 : rowAt 52 34 = some (ra 34 37 (.getfield 20) 3 4 193) := ch52_0 (j := 18) rfl
theorem r52_37 : rowAt 52 37 = some (ra 37 40 (.getfield 62) 2 3 126) := ch52_0 (j := 19) rfl
theorem r52_40 : rowAt 52 40 = some (ra 40 43 (.ifCond .ne 17) 57 0 0) := ch52_0 (j := 20) rfl
theorem r52_43 : rowAt 52 43 = some (r0 43 44 (.aload_n 0)) := ch52_0 (j := 21) rfl
theorem r52_44 : rowAt 52 44 = some (ra 44 47 (.getfield 24) 4 4 194) := ch52_0 (j := 22) rfl
theorem r52_47 : rowAt 52 47 = some (ra 47 50 (.getfield 62) 2 3 126) := ch52_0 (j := 23) rfl
theorem r52_50 : rowAt 52 50 = some (ra 50 53 (.ifCond .ge 7) 57 0 0) := ch52_0 (j := 24) rfl
theorem r52_53 : rowAt 52 53 = some (53, 54, .iconst 1, 0, 0, 0, 1, 0) := ch52_0 (j := 25) rfl
theorem r52_54 : rowAt 52 54 = some (ra 54 57 (.goto 4) 58 0 0) := ch52_0 (j := 26) rfl
theorem r52_57 : rowAt 52 57 = some (r0 57 58 (.iconst 0)) := ch52_0 (j := 27) rfl
theorem r52_58 : rowAt 52 58 = some (ra 58 59 (.istore_n 3) 3 0 0) := ch52_0 (j := 28) rfl
theorem r52_59 : rowAt 52 59 = some (ra 59 60 (.iload_n 2) 2 0 0) := ch52_0 (j := 29) rfl
theorem r52_60 : rowAt 52 60 = some (ra 60 63 (.ifCond .ne 7) 67 0 0) := ch52_0 (j := 30) rfl
theorem r52_63 : rowAt 52 63 = some (ra 63 64 (.iload_n 3) 3 0 0) := ch52_0 (j := 31) rfl
theorem r52_64 : rowAt 52 64 = some (ra 64 67 (.ifCond .eq 13) 77 0 0) := ch52_0 (j := 32) rfl
theorem r52_67 : rowAt 52 67 = some (ra 67 70 (.new 83) 2 7 357) := ch52_0 (j := 33) rfl
theorem r52_77 : rowAt 52 77 = some (r0 77 78 (.return_)) := ch52_0 (j := 34) rfl
theorem b52_0 {d : Nat} {q : Rs} {x0 : Nat} {x1 : Int32} {σ : St} 
    (kt : x1 < (3 : Int32) → Er (d + 1) 52 (25, [some (.ref x0), some (.int x1), none, none], [], σ) q)
    (kf : ¬ x1 < (3 : Int32) → Er (d + 1) 52 (5, [some (.ref x0), some (.int x1), none, none], [], σ) q) :
    Er (d + 1) 52 (0, [some (.ref x0), some (.int x1), none, none], [], σ) q := Er.sT (c2 := (1, [some (.ref x0), some (.int x1), none, none], [.int x1], σ)) r52_0 rfl rfl <| Er.sT (c2 := (2, [some (.ref x0), some (.int x1), none, none], [.int (3 : Int32), .int x1], σ)) r52_1 rfl rfl <| Er.sT (c2 := (brn .lt x1 (3 : Int32) 25 5, [some (.ref x0), some (.int x1), none, none], [], σ)) r52_2 rfl rfl <| (br_lt kt kf)
theorem b52_5 {d : Nat} {q : Rs} {x0 : Nat} {x1 : Int32} {σ : St} 
    (kt : (7 : Int32) < x1 → Er (d + 1) 52 (25, [some (.ref x0), some (.int x1), none, none], [], σ) q)
    (kf : ¬ (7 : Int32) < x1 → Er (d + 1) 52 (11, [some (.ref x0), some (.int x1), none, none], [], σ) q) :
    Er (d + 1) 52 (5, [some (.ref x0), some (.int x1), none, none], [], σ) q := Er.sT (c2 := (6, [some (.ref x0), some (.int x1), none, none], [.int x1], σ)) r52_5 rfl rfl <| Er.sT (c2 := (8, [some (.ref x0), some (.int x1), none, none], [.int (7 : Int32), .int x1], σ)) r52_6 rfl rfl <| Er.sT (c2 := (brn .gt x1 (7 : Int32) 25 11, [some (.ref x0), some (.int x1), none, none], [], σ)) r52_8 rfl rfl <| (br_gt kt kf)
theorem b52_11 {d : Nat} {q : Rs} {x0 : Nat} {x1 : Int32} {σ : St} (h1 : x0 < 24 ∧ kls x0 = 4) (h2 : (fr x0 4) < 24 ∧ kls (fr x0 4) = 3)
    (kt : ¬ (gfi σ (fr x0 4) 2) = (0 : Int32) → Er (d + 1) 52 (25, [some (.ref x0), some (.int x1), none, none], [], σ) q)
    (kf : (gfi σ (fr x0 4) 2) = (0 : Int32) → Er (d + 1) 52 (21, [some (.ref x0), some (.int x1), none, none], [], σ) q) :
    Er (d + 1) 52 (11, [some (.ref x0), some (.int x1), none, none], [], σ) q := Er.sT (c2 := (12, [some (.ref x0), some (.int x1), none, none], [.ref x0], σ)) r52_11 rfl rfl <| Er.st (P := (x0 < 24 ∧ kls x0 = 4)) (c2 := (15, [some (.ref x0), some (.int x1), none, none], [.ref (fr x0 4)], σ)) r52_12 rfl rfl h1 <| Er.st (P := ((fr x0 4) < 24 ∧ kls (fr x0 4) = 3)) (c2 := (18, [some (.ref x0), some (.int x1), none, none], [.int (gfi σ (fr x0 4) 2)], σ)) r52_15 rfl rfl h2 <| Er.sT (c2 := (brn .ne (gfi σ (fr x0 4) 2) (0 : Int32) 25 21, [some (.ref x0), some (.int x1), none, none], [], σ)) r52_18 rfl rfl <| (br_ne kt kf)
theorem b52_21 {d : Nat} {q : Rs} {x0 : Nat} {x1 : Int32} {σ : St} 
    (k : Er (d + 1) 52 (26, [some (.ref x0), some (.int x1), none, none], [.int (1 : Int32)], σ) q) :
    Er (d + 1) 52 (21, [some (.ref x0), some (.int x1), none, none], [], σ) q := Er.sT (c2 := (22, [some (.ref x0), some (.int x1), none, none], [.int (1 : Int32)], σ)) r52_21 rfl rfl <| Er.sT (c2 := (26, [some (.ref x0), some (.int x1), none, none], [.int (1 : Int32)], σ)) r52_22 rfl rfl <| k
theorem b52_25 {d : Nat} {q : Rs} {x0 : Nat} {x1 : Int32} {σ : St} 
    (k : Er (d + 1) 52 (26, [some (.ref x0), some (.int x1), none, none], [.int (0 : Int32)], σ) q) :
    Er (d + 1) 52 (25, [some (.ref x0), some (.int x1), none, none], [], σ) q := Er.sT (c2 := (26, [some (.ref x0), some (.int x1), none, none], [.int (0 : Int32)], σ)) r52_25 rfl rfl <| k
theorem b52_26 {d : Nat} {q : Rs} {x0 : Nat} {x1 : Int32} {s0 : Int32} {σ : St} 
    (kt : ¬ x1 = (9 : Int32) → Er (d + 1) 52 (57, [some (.ref x0), some (.int x1), some (.int s0), none], [], σ) q)
    (kf : x1 = (9 : Int32) → Er (d + 1) 52 (33, [some (.ref x0), some (.int x1), some (.int s0), none], [], σ) q) :
    Er (d + 1) 52 (26, [some (.ref x0), some (.int x1), none, none], [.int s0], σ) q := Er.sT (c2 := (27, [some (.ref x0), some (.int x1), some (.int s0), none], [], σ)) r52_26 rfl rfl <| Er.sT (c2 := (28, [some (.ref x0), some (.int x1), some (.int s0), none], [.int x1], σ)) r52_27 rfl rfl <| Er.sT (c2 := (30, [some (.ref x0), some (.int x1), some (.int s0), none], [.int (9 : Int32), .int x1], σ)) r52_28 rfl rfl <| Er.sT (c2 := (brn .ne x1 (9 : Int32) 57 33, [some (.ref x0), some (.int x1), some (.int s0), none], [], σ)) r52_30 rfl rfl <| (br_ne kt kf)
theorem b52_33 {d : Nat} {q : Rs} {x0 : Nat} {x1 : Int32} {x2 : Int32} {σ : St} (h1 : x0 < 24 ∧ kls x0 = 4) (h2 : (fr x0 3) < 24 ∧ kls (fr x0 3) = 3)
    (kt : ¬ (gfi σ (fr x0 3) 2) = (0 : Int32) → Er (d + 1) 52 (57, [some (.ref x0), some (.int x1), some (.int x2), none], [], σ) q)
    (kf : (gfi σ (fr x0 3) 2) = (0 : Int32) → Er (d + 1) 52 (43, [some (.ref x0), some (.int x1), some (.int x2), none], [], σ) q) :
    Er (d + 1) 52 (33, [some (.ref x0), some (.int x1), some (.int x2), none], [], σ) q := Er.sT (c2 := (34, [some (.ref x0), some (.int x1), some (.int x2), none], [.ref x0], σ)) r52_33 rfl rfl <| Er.st (P := (x0 < 24 ∧ kls x0 = 4)) (c2 := (37, [some (.ref x0), some (.int x1), some (.int x2), none], [.ref (fr x0 3)], σ)) r52_34 rfl rfl h1 <| Er.st (P := ((fr x0 3) < 24 ∧ kls (fr x0 3) = 3)) (c2 := (40, [some (.ref x0), some (.int x1), some (.int x2), none], [.int (gfi σ (fr x0 3) 2)], σ)) r52_37 rfl rfl h2 <| Er.sT (c2 := (brn .ne (gfi σ (fr x0 3) 2) (0 : Int32) 57 43, [some (.ref x0), some (.int x1), some (.int x2), none], [], σ)) r52_40 rfl rfl <| (br_ne kt kf)
theorem b52_43 {d : Nat} {q : Rs} {x0 : Nat} {x1 : Int32} {x2 : Int32} {σ : St} (h1 : x0 < 24 ∧ kls x0 = 4) (h2 : (fr x0 4) < 24 ∧ kls (fr x0 4) = 3)
    (kt : (0 : Int32) ≤ (gfi σ (fr x0 4) 2) → Er (d + 1) 52 (57, [some (.ref x0), some (.int x1), some (.int x2), none], [], σ) q)
    (kf : ¬ (0 : Int32) ≤ (gfi σ (fr x0 4) 2) → Er (d + 1) 52 (53, [some (.ref x0), some (.int x1), some (.int x2), none], [], σ) q) :
    Er (d + 1) 52 (43, [some (.ref x0), some (.int x1), some (.int x2), none], [], σ) q := Er.sT (c2 := (44, [some (.ref x0), some (.int x1), some (.int x2), none], [.ref x0], σ)) r52_43 rfl rfl <| Er.st (P := (x0 < 24 ∧ kls x0 = 4)) (c2 := (47, [some (.ref x0), some (.int x1), some (.int x2), none], [.ref (fr x0 4)], σ)) r52_44 rfl rfl h1 <| Er.st (P := ((fr x0 4) < 24 ∧ kls (fr x0 4) = 3)) (c2 := (50, [some (.ref x0), some (.int x1), some (.int x2), none], [.int (gfi σ (fr x0 4) 2)], σ)) r52_47 rfl rfl h2 <| Er.sT (c2 := (brn .ge (gfi σ (fr x0 4) 2) (0 : Int32) 57 53, [some (.ref x0), some (.int x1), some (.int x2), none], [], σ)) r52_50 rfl rfl <| (br_ge kt kf)
theorem b52_53 {d : Nat} {q : Rs} {x0 : Nat} {x1 : Int32} {x2 : Int32} {σ : St} 
    (k : Er (d + 1) 52 (58, [some (.ref x0), some (.int x1), some (.int x2), none], [.int (1 : Int32)], σ) q) :
    Er (d + 1) 52 (53, [some (.ref x0), some (.int x1), some (.int x2), none], [], σ) q := Er.sT (c2 := (54, [some (.ref x0), some (.int x1), some (.int x2), none], [.int (1 : Int32)], σ)) r52_53 rfl rfl <| Er.sT (c2 := (58, [some (.ref x0), some (.int x1), some (.int x2), none], [.int (1 : Int32)], σ)) r52_54 rfl rfl <| k
theorem b52_57 {d : Nat} {q : Rs} {x0 : Nat} {x1 : Int32} {x2 : Int32} {σ : St} 
    (k : Er (d + 1) 52 (58, [some (.ref x0), some (.int x1), some (.int x2), none], [.int (0 : Int32)], σ) q) :
    Er (d + 1) 52 (57, [some (.ref x0), some (.int x1), some (.int x2), none], [], σ) q := Er.sT (c2 := (58, [some (.ref x0), some (.int x1), some (.int x2), none], [.int (0 : Int32)], σ)) r52_57 rfl rfl <| k
theorem b52_58 {d : Nat} {q : Rs} {x0 : Nat} {x1 : Int32} {x2 : Int32} {s0 : Int32} {σ : St} 
    (kt : ¬ x2 = (0 : Int32) → Er (d + 1) 52 (67, [some (.ref x0), some (.int x1), some (.int x2), some (.int s0)], [], σ) q)
    (kf : x2 = (0 : Int32) → Er (d + 1) 52 (63, [some (.ref x0), some (.int x1), some (.int x2), some (.int s0)], [], σ) q) :
    Er (d + 1) 52 (58, [some (.ref x0), some (.int x1), some (.int x2), none], [.int s0], σ) q := Er.sT (c2 := (59, [some (.ref x0), some (.int x1), some (.int x2), some (.int s0)], [], σ)) r52_58 rfl rfl <| Er.sT (c2 := (60, [some (.ref x0), some (.int x1), some (.int x2), some (.int s0)], [.int x2], σ)) r52_59 rfl rfl <| Er.sT (c2 := (brn .ne x2 (0 : Int32) 67 63, [some (.ref x0), some (.int x1), some (.int x2), some (.int s0)], [], σ)) r52_60 rfl rfl <| (br_ne kt kf)
theorem b52_63 {d : Nat} {q : Rs} {x0 : Nat} {x1 : Int32} {x2 : Int32} {x3 : Int32} {σ : St} 
    (kt : x3 = (0 : Int32) → Er (d + 1) 52 (77, [some (.ref x0), some (.int x1), some (.int x2), some (.int x3)], [], σ) q)
    (kf : ¬ x3 = (0 : Int32) → Er (d + 1) 52 (67, [some (.ref x0), some (.int x1), some (.int x2), some (.int x3)], [], σ) q) :
    Er (d + 1) 52 (63, [some (.ref x0), some (.int x1), some (.int x2), some (.int x3)], [], σ) q := Er.sT (c2 := (64, [some (.ref x0), some (.int x1), some (.int x2), some (.int x3)], [.int x3], σ)) r52_63 rfl rfl <| Er.sT (c2 := (brn .eq x3 (0 : Int32) 77 67, [some (.ref x0), some (.int x1), some (.int x2), some (.int x3)], [], σ)) r52_64 rfl rfl <| (br_eq kt kf)
theorem b52_67 {d : Nat} {x0 : Nat} {x1 : Int32} {x2 : Int32} {x3 : Int32} {σ : St}  :
    Er (d + 6) 52 (67, [some (.ref x0), some (.int x1), some (.int x2), some (.int x3)], [], σ) (.inr 2, σ, 1) := (Er.thr r52_67 rfl rfl)
theorem b52_77 {d : Nat} {x0 : Nat} {x1 : Int32} {x2 : Int32} {x3 : Int32} {σ : St}  :
    Er (d + 1) 52 (77, [some (.ref x0), some (.int x1), some (.int x2), some (.int x3)], [], σ) (.inl none, σ, 0) := (Er.ret r52_77 rfl ⟨rfl, rfl, rfl⟩)
/-! NumberModels.perform(I)V -/
theorem tab_53 : tab 53 = tb53_0 ++ tb53_1 ++ tb53_2 := rfl
theorem ch53_0 {j : Nat} {r : Row} (h : tb53_0[j]? = some r) : rowAt 53 r.1 = some r := row_mem 53 (by decide) (by rw [tab_53]; exact (List.mem_append_left _ (List.mem_append_left _ (List.mem_of_getElem? h))))
theorem ch53_1 {j : Nat} {r : Row} (h : tb53_1[j]? = some r) : rowAt 53 r.1 = some r := row_mem 53 (by decide) (by rw [tab_53]; exact (List.mem_append_left _ (List.mem_append_right _ (List.mem_of_getElem? h))))
theorem ch53_2 {j : Nat} {r : Row} (h : tb53_2[j]? = some r) : rowAt 53 r.1 = some r := row_mem 53 (by decide) (by rw [tab_53]; exact (List.mem_append_right _ (List.mem_of_getElem? h)))
theorem r53_0 : rowAt 53 0 = some (ra 0 1 (.iload_n 1) 1 0 0) := ch53_0 (j := 0) rfl
theorem r53_1 : rowAt 53 1 = some (r0 1 64 (.tableswitch 301 0 11 #[63, 77, 92, 113, 134, 155, 134, 155, 176, 215, 233, 273])) := ch53_0 (j := 1) rfl
theorem r53_64 : rowAt 53 64 = some (r0 64 65 (.aload_n 0)) := ch53_0 (j := 2) rfl
theorem r53_65 : rowAt 53 65 = some (r0 65 66 (.aload_n 0)) := ch53_0 (j := 3) rfl
theorem r53_66 : rowAt 53 66 = some (ra 66 69 (.getfield 24) 4 4 194) := ch53_0 (j := 4) rfl
theorem r53_69 : rowAt 53 69 = some (ra 69 72 (.getfield 62) 2 3 126) := ch53_0 (j := 5) rfl
theorem r53_72 : rowAt 53 72 = some (ra 72 75 (.invokevirtual 258) 54 2 619) := ch53_0 (j := 6) rfl
theorem r53_75 : rowAt 53 75 = some (ra 75 78 (.goto 252) 327 0 0) := ch53_0 (j := 7) rfl
theorem r53_78 : rowAt 53 78 = some (r0 78 79 (.aload_n 0)) := ch53_0 (j := 8) rfl
theorem r53_79 : rowAt 53 79 = some (r0 79 80 (.aload_n 0)) := ch53_0 (j := 9) rfl
theorem r53_80 : rowAt 53 80 = some (ra 80 83 (.getfield 24) 4 4 194) := ch53_0 (j := 10) rfl
theorem r53_83 : rowAt 53 83 = some (ra 83 86 (.getfield 62) 2 3 126) := ch53_0 (j := 11) rfl
theorem r53_86 : rowAt 53 86 = some (r0 86 87 (.ineg)) := ch53_0 (j := 12) rfl
theorem r53_87 : rowAt 53 87 = some (ra 87 90 (.invokevirtual 258) 54 2 619) := ch53_0 (j := 13) rfl
theorem r53_90 : rowAt 53 90 = some (ra 90 93 (.goto 237) 327 0 0) := ch53_0 (j := 14) rfl
theorem r53_93 : rowAt 53 93 = some (r0 93 94 (.aload_n 0)) := ch53_0 (j := 15) rfl
theorem r53_94 : rowAt 53 94 = some (r0 94 95 (.aload_n 0)) := ch53_0 (j := 16) rfl
theorem r53_95 : rowAt 53 95 = some (ra 95 98 (.getfield 24) 4 4 194) := ch53_0 (j := 17) rfl
theorem r53_98 : rowAt 53 98 = some (ra 98 101 (.getfield 65) 0 3 122) := ch53_0 (j := 18) rfl
theorem r53_101 : rowAt 53 101 = some (r0 101 102 (.aload_n 0)) := ch53_0 (j := 19) rfl
theorem r53_102 : rowAt 53 102 = some (ra 102 105 (.getfield 24) 4 4 194) := ch53_0 (j := 20) rfl
theorem r53_105 : rowAt 53 105 = some (ra 105 108 (.getfield 76) 1 3 124) := ch53_0 (j := 21) rfl
theorem r53_108 : rowAt 53 108 = some (ra 108 111 (.invokevirtual 261) 55 3 637) := ch53_0 (j := 22) rfl
theorem r53_111 : rowAt 53 111 = some (ra 111 114 (.goto 216) 327 0 0) := ch53_0 (j := 23) rfl
theorem r53_114 : rowAt 53 114 = some (r0 114 115 (.aload_n 0)) := ch53_0 (j := 24) rfl
theorem r53_115 : rowAt 53 115 = some (r0 115 116 (.aload_n 0)) := ch53_0 (j := 25) rfl
theorem r53_116 : rowAt 53 116 = some (ra 116 119 (.getfield 24) 4 4 194) := ch53_0 (j := 26) rfl
theorem r53_119 : rowAt 53 119 = some (ra 119 122 (.getfield 76) 1 3 124) := ch53_0 (j := 27) rfl
theorem r53_122 : rowAt 53 122 = some (r0 122 123 (.aload_n 0)) := ch53_0 (j := 28) rfl
theorem r53_123 : rowAt 53 123 = some (ra 123 126 (.getfield 24) 4 4 194) := ch53_0 (j := 29) rfl
theorem r53_126 : rowAt 53 126 = some (ra 126 129 (.getfield 65) 0 3 122) := ch53_0 (j := 30) rfl
theorem r53_129 : rowAt 53 129 = some (ra 129 132 (.invokevirtual 261) 55 3 637) := ch53_0 (j := 31) rfl
theorem r53_132 : rowAt 53 132 = some (ra 132 135 (.goto 195) 327 0 0) := ch53_0 (j := 32) rfl
theorem r53_135 : rowAt 53 135 = some (r0 135 136 (.aload_n 0)) := ch53_0 (j := 33) rfl
theorem r53_136 : rowAt 53 136 = some (ra 136 139 (.invokevirtual 264) 56 1 641) := ch53_0 (j := 34) rfl
theorem r53_139 : rowAt 53 139 = some (r0 139 140 (.aload_n 0)) := ch53_0 (j := 35) rfl
theorem r53_140 : rowAt 53 140 = some (ra 140 141 (.iload_n 1) 1 0 0) := ch53_0 (j := 36) rfl
theorem r53_141 : rowAt 53 141 = some (141, 142, .iconst 4, 0, 0, 0, 4, 0) := ch53_0 (j := 37) rfl
theorem r53_142 : rowAt 53 142 = some (ra 142 145 (.if_icmp .ne 7) 149 0 0) := ch53_0 (j := 38) rfl
theorem r53_145 : rowAt 53 145 = some (145, 146, .iconst 1, 0, 0, 0, 1, 0) := ch53_0 (j := 39) rfl
theorem r53_146 : rowAt 53 146 = some (ra 146 149 (.goto 4) 150 0 0) := ch53_0 (j := 40) rfl
theorem r53_149 : rowAt 53 149 = some (r0 149 150 (.iconst 0)) := ch53_0 (j := 41) rfl
theorem r53_150 : rowAt 53 150 = some (ra 150 153 (.invokevirtual 267) 57 2 645) := ch53_0 (j := 42) rfl
theorem r53_153 : rowAt 53 153 = some (ra 153 156 (.goto 174) 327 0 0) := ch53_0 (j := 43) rfl
theorem r53_156 : rowAt 53 156 = some (r0 156 157 (.aload_n 0)) := ch53_0 (j := 44) rfl
theorem r53_157 : rowAt 53 157 = some (ra 157 160 (.invokevirtual 264) 56 1 641) := ch53_0 (j := 45) rfl
theorem r53_160 : rowAt 53 160 = some (r0 160 161 (.aload_n 0)) := ch53_0 (j := 46) rfl
theorem r53_161 : rowAt 53 161 = some (ra 161 162 (.iload_n 1) 1 0 0) := ch53_0 (j := 47) rfl
theorem r53_162 : rowAt 53 162 = some (162, 163, .iconst 5, 0, 0, 0, 5, 0) := ch53_0 (j := 48) rfl
theorem r53_163 : rowAt 53 163 = some (ra 163 166 (.if_icmp .ne 7) 170 0 0) := ch53_0 (j := 49) rfl
theorem r53_166 : rowAt 53 166 = some (166, 167, .iconst 1, 0, 0, 0, 1, 0) := ch53_0 (j := 50) rfl
theorem r53_167 : rowAt 53 167 = some (ra 167 170 (.goto 4) 171 0 0) := ch53_0 (j := 51) rfl
theorem r53_170 : rowAt 53 170 = some (r0 170 171 (.iconst 0)) := ch53_0 (j := 52) rfl
theorem r53_171 : rowAt 53 171 = some (ra 171 174 (.invokevirtual 271) 58 2 659) := ch53_0 (j := 53) rfl
theorem r53_174 : rowAt 53 174 = some (ra 174 177 (.goto 153) 327 0 0) := ch53_0 (j := 54) rfl
theorem r53_177 : rowAt 53 177 = some (r0 177 178 (.aload_n 0)) := ch53_0 (j := 55) rfl
theorem r53_178 : rowAt 53 178 = some (ra 178 181 (.getfield 50) 9 4 199) := ch53_0 (j := 56) rfl
theorem r53_181 : rowAt 53 181 = some (r0 181 182 (.aload_n 0)) := ch53_0 (j := 57) rfl
theorem r53_182 : rowAt 53 182 = some (ra 182 185 (.getfield 20) 3 4 193) := ch53_0 (j := 58) rfl
theorem r53_185 : rowAt 53 185 = some (ra 185 188 (.getfield 65) 0 3 122) := ch53_0 (j := 59) rfl
theorem r53_188 : rowAt 53 188 = some (r0 188 189 (.aload_n 0)) := ch53_1 (j := 0) rfl
theorem r53_189 : rowAt 53 189 = some (ra 189 192 (.getfield 24) 4 4 194) := ch53_1 (j := 1) rfl
theorem r53_192 : rowAt 53 192 = some (ra 192 195 (.getfield 65) 0 3 122) := ch53_1 (j := 2) rfl
theorem r53_195 : rowAt 53 195 = some (ra 195 198 (.invokevirtual 274) 0 3 394) := ch53_1 (j := 3) rfl
theorem r53_198 : rowAt 53 198 = some (r0 198 199 (.aload_n 0)) := ch53_1 (j := 4) rfl
theorem r53_199 : rowAt 53 199 = some (ra 199 202 (.getfield 27) 5 4 195) := ch53_1 (j := 5) rfl
theorem r53_202 : rowAt 53 202 = some (202, 203, .iconst 1, 0, 0, 0, 1, 0) := ch53_1 (j := 6) rfl
theorem r53_203 : rowAt 53 203 = some (r0 203 204 (.aload_n 0)) := ch53_1 (j := 7) rfl
theorem r53_204 : rowAt 53 204 = some (ra 204 207 (.getfield 50) 9 4 199) := ch53_1 (j := 8) rfl
theorem r53_207 : rowAt 53 207 = some (ra 207 210 (.getfield 277) 0 0 168) := ch53_1 (j := 9) rfl
theorem r53_210 : rowAt 53 210 = some (ra 210 213 (.invokevirtual 280) 35 3 653) := ch53_1 (j := 10) rfl
theorem r53_213 : rowAt 53 213 = some (ra 213 216 (.goto 114) 327 0 0) := ch53_1 (j := 11) rfl
theorem r53_216 : rowAt 53 216 = some (r0 216 217 (.aload_n 0)) := ch53_1 (j := 12) rfl
theorem r53_217 : rowAt 53 217 = some (r0 217 218 (.aload_n 0)) := ch53_1 (j := 13) rfl
theorem r53_218 : rowAt 53 218 = some (ra 218 221 (.getfield 24) 4 4 194) := ch53_1 (j := 14) rfl
theorem r53_221 : rowAt 53 221 = some (ra 221 224 (.getfield 65) 0 3 122) := ch53_1 (j := 15) rfl
theorem r53_224 : rowAt 53 224 = some (ra 224 227 (.invokevirtual 159) 24 1 663) := ch53_1 (j := 16) rfl
theorem r53_227 : rowAt 53 227 = some (r0 227 228 (.l2i)) := ch53_1 (j := 17) rfl
theorem r53_228 : rowAt 53 228 = some (ra 228 231 (.invokevirtual 284) 59 2 664) := ch53_1 (j := 18) rfl
theorem r53_231 : rowAt 53 231 = some (ra 231 234 (.goto 96) 327 0 0) := ch53_1 (j := 19) rfl
theorem r53_234 : rowAt 53 234 = some (r0 234 235 (.aload_n 0)) := ch53_1 (j := 20) rfl
theorem r53_235 : rowAt 53 235 = some (ra 235 238 (.getfield 27) 5 4 195) := ch53_1 (j := 21) rfl
theorem r53_238 : rowAt 53 238 = some (r0 238 239 (.aload_n 0)) := ch53_1 (j := 22) rfl
theorem r53_239 : rowAt 53 239 = some (ra 239 242 (.getfield 20) 3 4 193) := ch53_1 (j := 23) rfl
theorem r53_242 : rowAt 53 242 = some (ra 242 245 (.invokevirtual 287) 36 2 673) := ch53_1 (j := 24) rfl
theorem r53_245 : rowAt 53 245 = some (r0 245 246 (.aload_n 0)) := ch53_1 (j := 25) rfl
theorem r53_246 : rowAt 53 246 = some (ra 246 249 (.getfield 27) 5 4 195) := ch53_1 (j := 26) rfl
theorem r53_249 : rowAt 53 249 = some (r0 249 250 (.aload_n 0)) := ch53_1 (j := 27) rfl
theorem r53_250 : rowAt 53 250 = some (ra 250 253 (.getfield 24) 4 4 194) := ch53_1 (j := 28) rfl
theorem r53_253 : rowAt 53 253 = some (ra 253 256 (.getfield 62) 2 3 126) := ch53_1 (j := 29) rfl
theorem r53_256 : rowAt 53 256 = some (r0 256 257 (.aload_n 0)) := ch53_1 (j := 30) rfl
theorem r53_257 : rowAt 53 257 = some (ra 257 260 (.getfield 24) 4 4 194) := ch53_1 (j := 31) rfl
theorem r53_260 : rowAt 53 260 = some (ra 260 263 (.getfield 65) 0 3 122) := ch53_1 (j := 32) rfl
theorem r53_263 : rowAt 53 263 = some (ra 263 266 (.invokevirtual 159) 24 1 663) := ch53_1 (j := 33) rfl
theorem r53_266 : rowAt 53 266 = some (r0 266 267 (.l2i)) := ch53_1 (j := 34) rfl
theorem r53_267 : rowAt 53 267 = some (r0 267 268 (.imul)) := ch53_1 (j := 35) rfl
theorem r53_268 : rowAt 53 268 = some (ra 268 271 (.invokevirtual 119) 33 2 529) := ch53_1 (j := 36) rfl
theorem r53_271 : rowAt 53 271 = some (ra 271 274 (.goto 56) 327 0 0) := ch53_1 (j := 37) rfl
theorem r53_274 : rowAt 53 274 = some (r0 274 275 (.aload_n 0)) := ch53_1 (j := 38) rfl
theorem r53_275 : rowAt 53 275 = some (ra 275 278 (.getfield 27) 5 4 195) := ch53_1 (j := 39) rfl
theorem r53_278 : rowAt 53 278 = some (r0 278 279 (.aload_n 0)) := ch53_1 (j := 40) rfl
theorem r53_279 : rowAt 53 279 = some (ra 279 282 (.invokevirtual 163) 61 1 677) := ch53_1 (j := 41) rfl
theorem r53_282 : rowAt 53 282 = some (ra 282 285 (.ifCond .gt 10) 292 0 0) := ch53_1 (j := 42) rfl
theorem r53_285 : rowAt 53 285 = some (r0 285 286 (.aload_n 0)) := ch53_1 (j := 43) rfl
theorem r53_286 : rowAt 53 286 = some (ra 286 289 (.getfield 20) 3 4 193) := ch53_1 (j := 44) rfl
theorem r53_289 : rowAt 53 289 = some (ra 289 292 (.goto 7) 296 0 0) := ch53_1 (j := 45) rfl
theorem r53_292 : rowAt 53 292 = some (r0 292 293 (.aload_n 0)) := ch53_1 (j := 46) rfl
theorem r53_293 : rowAt 53 293 = some (ra 293 296 (.getfield 24) 4 4 194) := ch53_1 (j := 47) rfl
theorem r53_296 : rowAt 53 296 = some (ra 296 299 (.invokevirtual 287) 36 2 673) := ch53_1 (j := 48) rfl
theorem r53_299 : rowAt 53 299 = some (ra 299 302 (.goto 28) 327 0 0) := ch53_1 (j := 49) rfl
theorem r53_302 : rowAt 53 302 = some (r0 302 303 (.aload_n 0)) := ch53_1 (j := 50) rfl
theorem r53_303 : rowAt 53 303 = some (ra 303 306 (.getfield 27) 5 4 195) := ch53_1 (j := 51) rfl
theorem r53_306 : rowAt 53 306 = some (r0 306 307 (.aload_n 0)) := ch53_1 (j := 52) rfl
theorem r53_307 : rowAt 53 307 = some (ra 307 310 (.invokevirtual 163) 61 1 677) := ch53_1 (j := 53) rfl
theorem r53_310 : rowAt 53 310 = some (ra 310 313 (.ifCond .lt 10) 320 0 0) := ch53_1 (j := 54) rfl
theorem r53_313 : rowAt 53 313 = some (r0 313 314 (.aload_n 0)) := ch53_1 (j := 55) rfl
theorem r53_314 : rowAt 53 314 = some (ra 314 317 (.getfield 20) 3 4 193) := ch53_1 (j := 56) rfl
theorem r53_317 : rowAt 53 317 = some (ra 317 320 (.goto 7) 324 0 0) := ch53_1 (j := 57) rfl
theorem r53_320 : rowAt 53 320 = some (r0 320 321 (.aload_n 0)) := ch53_1 (j := 58) rfl
theorem r53_321 : rowAt 53 321 = some (ra 321 324 (.getfield 24) 4 4 194) := ch53_1 (j := 59) rfl
theorem r53_324 : rowAt 53 324 = some (ra 324 327 (.invokevirtual 287) 36 2 673) := ch53_2 (j := 0) rfl
theorem r53_327 : rowAt 53 327 = some (r0 327 328 (.return_)) := ch53_2 (j := 1) rfl
theorem b53_0 {d : Nat} {q : Rs} {x0 : Nat} {x1 : Int32} {σ : St} 
    (k : Er (d + 1) 53 (tsw 1 301 0 11 #[63, 77, 92, 113, 134, 155, 134, 155, 176, 215, 233, 273] x1.toInt, [some (.ref x0), some (.int x1)], [], σ) q) :
    Er (d + 1) 53 (0, [some (.ref x0), some (.int x1)], [], σ) q := Er.sT (c2 := (1, [some (.ref x0), some (.int x1)], [.int x1], σ)) r53_0 rfl rfl <| Er.sT (c2 := (tsw 1 301 0 11 #[63, 77, 92, 113, 134, 155, 134, 155, 176, 215, 233, 273] x1.toInt, [some (.ref x0), some (.int x1)], [], σ)) r53_1 rfl rfl <| k
theorem b53_64 {d : Nat} {q : Rs} {x0 : Nat} {x1 : Int32} {σ : St} {σ2 : St}  (h1 : x0 < 24 ∧ kls x0 = 4) (h2 : (fr x0 4) < 24 ∧ kls (fr x0 4) = 3)
    (hy : Er d 54 (0, ent 54 [.ref x0, .int (gfi σ (fr x0 4) 2)], [], σ) (.inl none, σ2, 0))
    (k : Er (d + 1) 53 (75, [some (.ref x0), some (.int x1)], [], σ2) q) :
    Er (d + 1) 53 (64, [some (.ref x0), some (.int x1)], [], σ) q := Er.sT (c2 := (65, [some (.ref x0), some (.int x1)], [.ref x0], σ)) r53_64 rfl rfl <| Er.sT (c2 := (66, [some (.ref x0), some (.int x1)], [.ref x0, .ref x0], σ)) r53_65 rfl rfl <| Er.st (P := (x0 < 24 ∧ kls x0 = 4)) (c2 := (69, [some (.ref x0), some (.int x1)], [.ref (fr x0 4), .ref x0], σ)) r53_66 rfl rfl h1 <| Er.st (P := ((fr x0 4) < 24 ∧ kls (fr x0 4) = 3)) (c2 := (72, [some (.ref x0), some (.int x1)], [.int (gfi σ (fr x0 4) 2), .ref x0], σ)) r53_69 rfl rfl h2 <| (Er.call (vs := [.ref x0, .int (gfi σ (fr x0 4) 2)]) (rest := []) r53_72 rfl rfl (Nat.le_of_ble_eq_true rfl) (Nat.le_of_ble_eq_true rfl) (fun _ => ⟨_, _, rfl, h1⟩) hy k)
theorem b53_75 {d : Nat} {q : Rs} {x0 : Nat} {x1 : Int32} {σ : St} 
    (k : Er (d + 1) 53 (327, [some (.ref x0), some (.int x1)], [], σ) q) :
    Er (d + 1) 53 (75, [some (.ref x0), some (.int x1)], [], σ) q := Er.sT (c2 := (327, [some (.ref x0), some (.int x1)], [], σ)) r53_75 rfl rfl <| k
theorem b53_78 {d : Nat} {q : Rs} {x0 : Nat} {x1 : Int32} {σ : St} {σ2 : St}  (h1 : x0 < 24 ∧ kls x0 = 4) (h2 : (fr x0 4) < 24 ∧ kls (fr x0 4) = 3)
    (hy : Er d 54 (0, ent 54 [.ref x0, .int (-(gfi σ (fr x0 4) 2))], [], σ) (.inl none, σ2, 0))
    (k : Er (d + 1) 53 (90, [some (.ref x0), some (.int x1)], [], σ2) q) :
    Er (d + 1) 53 (78, [some (.ref x0), some (.int x1)], [], σ) q := Er.sT (c2 := (79, [some (.ref x0), some (.int x1)], [.ref x0], σ)) r53_78 rfl rfl <| Er.sT (c2 := (80, [some (.ref x0), some (.int x1)], [.ref x0, .ref x0], σ)) r53_79 rfl rfl <| Er.st (P := (x0 < 24 ∧ kls x0 = 4)) (c2 := (83, [some (.ref x0), some (.int x1)], [.ref (fr x0 4), .ref x0], σ)) r53_80 rfl rfl h1 <| Er.st (P := ((fr x0 4) < 24 ∧ kls (fr x0 4) = 3)) (c2 := (86, [some (.ref x0), some (.int x1)], [.int (gfi σ (fr x0 4) 2), .ref x0], σ)) r53_83 rfl rfl h2 <| Er.sT (c2 := (87, [some (.ref x0), some (.int x1)], [.int (-(gfi σ (fr x0 4) 2)), .ref x0], σ)) r53_86 rfl rfl <| (Er.call (vs := [.ref x0, .int (-(gfi σ (fr x0 4) 2))]) (rest := []) r53_87 rfl rfl (Nat.le_of_ble_eq_true rfl) (Nat.le_of_ble_eq_true rfl) (fun _ => ⟨_, _, rfl, h1⟩) hy k)
theorem b53_90 {d : Nat} {q : Rs} {x0 : Nat} {x1 : Int32} {σ : St} 
    (k : Er (d + 1) 53 (327, [some (.ref x0), some (.int x1)], [], σ) q) :
    Er (d + 1) 53 (90, [some (.ref x0), some (.int x1)], [], σ) q := Er.sT (c2 := (327, [some (.ref x0), some (.int x1)], [], σ)) r53_90 rfl rfl <| k
theorem b53_93 {d : Nat} {q : Rs} {x0 : Nat} {x1 : Int32} {σ : St} {σ2 : St}  (h1 : x0 < 24 ∧ kls x0 = 4) (h2 : (fr x0 4) < 24 ∧ kls (fr x0 4) = 3)
    (hy : Er d 55 (0, ent 55 [.ref x0, .ref (fr (fr x0 4) 0), .ref (fr (fr x0 4) 1)], [], σ) (.inl none, σ2, 0))
    (k : Er (d + 1) 53 (111, [some (.ref x0), some (.int x1)], [], σ2) q) :
    Er (d + 1) 53 (93, [some (.ref x0), some (.int x1)], [], σ) q := Er.sT (c2 := (94, [some (.ref x0), some (.int x1)], [.ref x0], σ)) r53_93 rfl rfl <| Er.sT (c2 := (95, [some (.ref x0), some (.int x1)], [.ref x0, .ref x0], σ)) r53_94 rfl rfl <| Er.st (P := (x0 < 24 ∧ kls x0 = 4)) (c2 := (98, [some (.ref x0), some (.int x1)], [.ref (fr x0 4), .ref x0], σ)) r53_95 rfl rfl h1 <| Er.st (P := ((fr x0 4) < 24 ∧ kls (fr x0 4) = 3)) (c2 := (101, [some (.ref x0), some (.int x1)], [.ref (fr (fr x0 4) 0), .ref x0], σ)) r53_98 rfl rfl h2 <| Er.sT (c2 := (102, [some (.ref x0), some (.int x1)], [.ref x0, .ref (fr (fr x0 4) 0), .ref x0], σ)) r53_101 rfl rfl <| Er.st (P := (x0 < 24 ∧ kls x0 = 4)) (c2 := (105, [some (.ref x0), some (.int x1)], [.ref (fr x0 4), .ref (fr (fr x0 4) 0), .ref x0], σ)) r53_102 rfl rfl h1 <| Er.st (P := ((fr x0 4) < 24 ∧ kls (fr x0 4) = 3)) (c2 := (108, [some (.ref x0), some (.int x1)], [.ref (fr (fr x0 4) 1), .ref (fr (fr x0 4) 0), .ref x0], σ)) r53_105 rfl rfl h2 <| (Er.call (vs := [.ref x0, .ref (fr (fr x0 4) 0), .ref (fr (fr x0 4) 1)]) (rest := []) r53_108 rfl rfl (Nat.le_of_ble_eq_true rfl) (Nat.le_of_ble_eq_true rfl) (fun _ => ⟨_, _, rfl, h1⟩) hy k)
theorem b53_111 {d : Nat} {q : Rs} {x0 : Nat} {x1 : Int32} {σ : St} 
    (k : Er (d + 1) 53 (327, [some (.ref x0), some (.int x1)], [], σ) q) :
    Er (d + 1) 53 (111, [some (.ref x0), some (.int x1)], [], σ) q := Er.sT (c2 := (327, [some (.ref x0), some (.int x1)], [], σ)) r53_111 rfl rfl <| k
theorem b53_114 {d : Nat} {q : Rs} {x0 : Nat} {x1 : Int32} {σ : St} {σ2 : St}  (h1 : x0 < 24 ∧ kls x0 = 4) (h2 : (fr x0 4) < 24 ∧ kls (fr x0 4) = 3)
    (hy : Er d 55 (0, ent 55 [.ref x0, .ref (fr (fr x0 4) 1), .ref (fr (fr x0 4) 0)], [], σ) (.inl none, σ2, 0))
    (k : Er (d + 1) 53 (132, [some (.ref x0), some (.int x1)], [], σ2) q) :
    Er (d + 1) 53 (114, [some (.ref x0), some (.int x1)], [], σ) q := Er.sT (c2 := (115, [some (.ref x0), some (.int x1)], [.ref x0], σ)) r53_114 rfl rfl <| Er.sT (c2 := (116, [some (.ref x0), some (.int x1)], [.ref x0, .ref x0], σ)) r53_115 rfl rfl <| Er.st (P := (x0 < 24 ∧ kls x0 = 4)) (c2 := (119, [some (.ref x0), some (.int x1)], [.ref (fr x0 4), .ref x0], σ)) r53_116 rfl rfl h1 <| Er.st (P := ((fr x0 4) < 24 ∧ kls (fr x0 4) = 3)) (c2 := (122, [some (.ref x0), some (.int x1)], [.ref (fr (fr x0 4) 1), .ref x0], σ)) r53_119 rfl rfl h2 <| Er.sT (c2 := (123, [some (.ref x0), some (.int x1)], [.ref x0, .ref (fr (fr x0 4) 1), .ref x0], σ)) r53_122 rfl rfl <| Er.st (P := (x0 < 24 ∧ kls x0 = 4)) (c2 := (126, [some (.ref x0), some (.int x1)], [.ref (fr x0 4), .ref (fr (fr x0 4) 1), .ref x0], σ)) r53_123 rfl rfl h1 <| Er.st (P := ((fr x0 4) < 24 ∧ kls (fr x0 4) = 3)) (c2 := (129, [some (.ref x0), some (.int x1)], [.ref (fr (fr x0 4) 0), .ref (fr (fr x0 4) 1), .ref x0], σ)) r53_126 rfl rfl h2 <| (Er.call (vs := [.ref x0, .ref (fr (fr x0 4) 1), .ref (fr (fr x0 4) 0)]) (rest := []) r53_129 rfl rfl (Nat.le_of_ble_eq_true rfl) (Nat.le_of_ble_eq_true rfl) (fun _ => ⟨_, _, rfl, h1⟩) hy k)
theorem b53_132 {d : Nat} {q : Rs} {x0 : Nat} {x1 : Int32} {σ : St} 
    (k : Er (d + 1) 53 (327, [some (.ref x0), some (.int x1)], [], σ) q) :
    Er (d + 1) 53 (132, [some (.ref x0), some (.int x1)], [], σ) q := Er.sT (c2 := (327, [some (.ref x0), some (.int x1)], [], σ)) r53_132 rfl rfl <| k
theorem b53_135 {d : Nat} {q : Rs} {x0 : Nat} {x1 : Int32} {σ : St} {σ2 : St}  (h1 : x0 < 24 ∧ kls x0 = 4)
    (hy : Er d 56 (0, ent 56 [.ref x0], [], σ) (.inl none, σ2, 0))
    (k : Er (d + 1) 53 (139, [some (.ref x0), some (.int x1)], [], σ2) q) :
    Er (d + 1) 53 (135, [some (.ref x0), some (.int x1)], [], σ) q := Er.sT (c2 := (136, [some (.ref x0), some (.int x1)], [.ref x0], σ)) r53_135 rfl rfl <| (Er.call (vs := [.ref x0]) (rest := []) r53_136 rfl rfl (Nat.le_of_ble_eq_true rfl) (Nat.le_of_ble_eq_true rfl) (fun _ => ⟨_, _, rfl, h1⟩) hy k)
theorem b53_139 {d : Nat} {q : Rs} {x0 : Nat} {x1 : Int32} {σ : St} 
    (kt : ¬ x1 = (4 : Int32) → Er (d + 1) 53 (149, [some (.ref x0), some (.int x1)], [.ref x0], σ) q)
    (kf : x1 = (4 : Int32) → Er (d + 1) 53 (145, [some (.ref x0), some (.int x1)], [.ref x0], σ) q) :
    Er (d + 1) 53 (139, [some (.ref x0), some (.int x1)], [], σ) q := Er.sT (c2 := (140, [some (.ref x0), some (.int x1)], [.ref x0], σ)) r53_139 rfl rfl <| Er.sT (c2 := (141, [some (.ref x0), some (.int x1)], [.int x1, .ref x0], σ)) r53_140 rfl rfl <| Er.sT (c2 := (142, [some (.ref x0), some (.int x1)], [.int (4 : Int32), .int x1, .ref x0], σ)) r53_141 rfl rfl <| Er.sT (c2 := (brn .ne x1 (4 : Int32) 149 145, [some (.ref x0), some (.int x1)], [.ref x0], σ)) r53_142 rfl rfl <| (br_ne kt kf)
theorem b53_145 {d : Nat} {q : Rs} {x0 : Nat} {x1 : Int32} {s0 : Nat} {σ : St} 
    (k : Er (d + 1) 53 (150, [some (.ref x0), some (.int x1)], [.int (1 : Int32), .ref s0], σ) q) :
    Er (d + 1) 53 (145, [some (.ref x0), some (.int x1)], [.ref s0], σ) q := Er.sT (c2 := (146, [some (.ref x0), some (.int x1)], [.int (1 : Int32), .ref s0], σ)) r53_145 rfl rfl <| Er.sT (c2 := (150, [some (.ref x0), some (.int x1)], [.int (1 : Int32), .ref s0], σ)) r53_146 rfl rfl <| k
theorem b53_149 {d : Nat} {q : Rs} {x0 : Nat} {x1 : Int32} {s0 : Nat} {σ : St} 
    (k : Er (d + 1) 53 (150, [some (.ref x0), some (.int x1)], [.int (0 : Int32), .ref s0], σ) q) :
    Er (d + 1) 53 (149, [some (.ref x0), some (.int x1)], [.ref s0], σ) q := Er.sT (c2 := (150, [some (.ref x0), some (.int x1)], [.int (0 : Int32), .ref s0], σ)) r53_149 rfl rfl <| k
theorem b53_150 {d : Nat} {q : Rs} {x0 : Nat} {x1 : Int32} {s0 : Nat} {s1 : Int32} {σ : St} {σ2 : St}  (h1 : s0 < 24 ∧ kls s0 = 4)
    (hy : Er d 57 (0, ent 57 [.ref s0, .int s1], [], σ) (.inl none, σ2, 0))
    (k : Er (d + 1) 53 (153, [some (.ref x0), some (.int x1)], [], σ2) q) :
    Er (d + 1) 53 (150, [some (.ref x0), some (.int x1)], [.int s1, .ref s0], σ) q := (Er.call (vs := [.ref s0, .int s1]) (rest := []) r53_150 rfl rfl (Nat.le_of_ble_eq_true rfl) (Nat.le_of_ble_eq_true rfl) (fun _ => ⟨_, _, rfl, h1⟩) hy k)
theorem b53_153 {d : Nat} {q : Rs} {x0 : Nat} {x1 : Int32} {σ : St} 
    (k : Er (d + 1) 53 (327, [some (.ref x0), some (.int x1)], [], σ) q) :
    Er (d + 1) 53 (153, [some (.ref x0), some (.int x1)], [], σ) q := Er.sT (c2 := (327, [some (.ref x0), some (.int x1)], [], σ)) r53_153 rfl rfl <| k
theorem b53_156 {d : Nat} {q : Rs} {x0 : Nat} {x1 : Int32} {σ : St} {σ2 : St}  (h1 : x0 < 24 ∧ kls x0 = 4)
    (hy : Er d 56 (0, ent 56 [.ref x0], [], σ) (.inl none, σ2, 0))
    (k : Er (d + 1) 53 (160, [some (.ref x0), some (.int x1)], [], σ2) q) :
    Er (d + 1) 53 (156, [some (.ref x0), some (.int x1)], [], σ) q := Er.sT (c2 := (157, [some (.ref x0), some (.int x1)], [.ref x0], σ)) r53_156 rfl rfl <| (Er.call (vs := [.ref x0]) (rest := []) r53_157 rfl rfl (Nat.le_of_ble_eq_true rfl) (Nat.le_of_ble_eq_true rfl) (fun _ => ⟨_, _, rfl, h1⟩) hy k)
theorem b53_160 {d : Nat} {q : Rs} {x0 : Nat} {x1 : Int32} {σ : St} 
    (kt : ¬ x1 = (5 : Int32) → Er (d + 1) 53 (170, [some (.ref x0), some (.int x1)], [.ref x0], σ) q)
    (kf : x1 = (5 : Int32) → Er (d + 1) 53 (166, [some (.ref x0), some (.int x1)], [.ref x0], σ) q) :
    Er (d + 1) 53 (160, [some (.ref x0), some (.int x1)], [], σ) q := Er.sT (c2 := (161, [some (.ref x0), some (.int x1)], [.ref x0], σ)) r53_160 rfl rfl <| Er.sT (c2 := (162, [some (.ref x0), some (.int x1)], [.int x1, .ref x0], σ)) r53_161 rfl rfl <| Er.sT (c2 := (163, [some (.ref x0), some (.int x1)], [.int (5 : Int32), .int x1, .ref x0], σ)) r53_162 rfl rfl <| Er.sT (c2 := (brn .ne x1 (5 : Int32) 170 166, [some (.ref x0), some (.int x1)], [.ref x0], σ)) r53_163 rfl rfl <| (br_ne kt kf)
theorem b53_166 {d : Nat} {q : Rs} {x0 : Nat} {x1 : Int32} {s0 : Nat} {σ : St} 
    (k : Er (d + 1) 53 (171, [some (.ref x0), some (.int x1)], [.int (1 : Int32), .ref s0], σ) q) :
    Er (d + 1) 53 (166, [some (.ref x0), some (.int x1)], [.ref s0], σ) q := Er.sT (c2 := (167, [some (.ref x0), some (.int x1)], [.int (1 : Int32), .ref s0], σ)) r53_166 rfl rfl <| Er.sT (c2 := (171, [some (.ref x0), some (.int x1)], [.int (1 : Int32), .ref s0], σ)) r53_167 rfl rfl <| k
theorem b53_170 {d : Nat} {q : Rs} {x0 : Nat} {x1 : Int32} {s0 : Nat} {σ : St} 
    (k : Er (d + 1) 53 (171, [some (.ref x0), some (.int x1)], [.int (0 : Int32), .ref s0], σ) q) :
    Er (d + 1) 53 (170, [some (.ref x0), some (.int x1)], [.ref s0], σ) q := Er.sT (c2 := (171, [some (.ref x0), some (.int x1)], [.int (0 : Int32), .ref s0], σ)) r53_170 rfl rfl <| k
theorem b53_171 {d : Nat} {q : Rs} {x0 : Nat} {x1 : Int32} {s0 : Nat} {s1 : Int32} {σ : St} {σ2 : St}  (h1 : s0 < 24 ∧ kls s0 = 4)
    (hy : Er d 58 (0, ent 58 [.ref s0, .int s1], [], σ) (.inl none, σ2, 0))
    (k : Er (d + 1) 53 (174, [some (.ref x0), some (.int x1)], [], σ2) q) :
    Er (d + 1) 53 (171, [some (.ref x0), some (.int x1)], [.int s1, .ref s0], σ) q := (Er.call (vs := [.ref s0, .int s1]) (rest := []) r53_171 rfl rfl (Nat.le_of_ble_eq_true rfl) (Nat.le_of_ble_eq_true rfl) (fun _ => ⟨_, _, rfl, h1⟩) hy k)
theorem b53_174 {d : Nat} {q : Rs} {x0 : Nat} {x1 : Int32} {σ : St} 
    (k : Er (d + 1) 53 (327, [some (.ref x0), some (.int x1)], [], σ) q) :
    Er (d + 1) 53 (174, [some (.ref x0), some (.int x1)], [], σ) q := Er.sT (c2 := (327, [some (.ref x0), some (.int x1)], [], σ)) r53_174 rfl rfl <| k
theorem b53_177 {d : Nat} {q : Rs} {x0 : Nat} {x1 : Int32} {σ : St} {σ2 : St}  (h1 : x0 < 24 ∧ kls x0 = 4) (h2 : (fr x0 3) < 24 ∧ kls (fr x0 3) = 3) (h3 : (fr x0 4) < 24 ∧ kls (fr x0 4) = 3) (h4 : (fr x0 9) < 24 ∧ kls (fr x0 9) = 0)
    (hy : Er d 0 (0, ent 0 [.ref (fr x0 9), .ref (fr (fr x0 3) 0), .ref (fr (fr x0 4) 0)], [], σ) (.inl none, σ2, 0))
    (k : Er (d + 1) 53 (198, [some (.ref x0), some (.int x1)], [], σ2) q) :
    Er (d + 1) 53 (177, [some (.ref x0), some (.int x1)], [], σ) q := Er.sT (c2 := (178, [some (.ref x0), some (.int x1)], [.ref x0], σ)) r53_177 rfl rfl <| Er.st (P := (x0 < 24 ∧ kls x0 = 4)) (c2 := (181, [some (.ref x0), some (.int x1)], [.ref (fr x0 9)], σ)) r53_178 rfl rfl h1 <| Er.sT (c2 := (182, [some (.ref x0), some (.int x1)], [.ref x0, .ref (fr x0 9)], σ)) r53_181 rfl rfl <| Er.st (P := (x0 < 24 ∧ kls x0 = 4)) (c2 := (185, [some (.ref x0), some (.int x1)], [.ref (fr x0 3), .ref (fr x0 9)], σ)) r53_182 rfl rfl h1 <| Er.st (P := ((fr x0 3) < 24 ∧ kls (fr x0 3) = 3)) (c2 := (188, [some (.ref x0), some (.int x1)], [.ref (fr (fr x0 3) 0), .ref (fr x0 9)], σ)) r53_185 rfl rfl h2 <| Er.sT (c2 := (189, [some (.ref x0), some (.int x1)], [.ref x0, .ref (fr (fr x0 3) 0), .ref (fr x0 9)], σ)) r53_188 rfl rfl <| Er.st (P := (x0 < 24 ∧ kls x0 = 4)) (c2 := (192, [some (.ref x0), some (.int x1)], [.ref (fr x0 4), .ref (fr (fr x0 3) 0), .ref (fr x0 9)], σ)) r53_189 rfl rfl h1 <| Er.st (P := ((fr x0 4) < 24 ∧ kls (fr x0 4) = 3)) (c2 := (195, [some (.ref x0), some (.int x1)], [.ref (fr (fr x0 4) 0), .ref (fr (fr x0 3) 0), .ref (fr x0 9)], σ)) r53_192 rfl rfl h3 <| (Er.call (vs := [.ref (fr x0 9), .ref (fr (fr x0 3) 0), .ref (fr (fr x0 4) 0)]) (rest := []) r53_195 rfl rfl (Nat.le_of_ble_eq_true rfl) (Nat.le_of_ble_eq_true rfl) (fun _ => ⟨_, _, rfl, h4⟩) hy k)
theorem b53_198 {d : Nat} {q : Rs} {x0 : Nat} {x1 : Int32} {σ : St} {σ2 : St}  (h1 : x0 < 24 ∧ kls x0 = 4) (h2 : (fr x0 9) < 24 ∧ kls (fr x0 9) = 0) (h3 : (fr x0 5) < 24 ∧ kls (fr x0 5) = 3)
    (hy : Er d 35 (0, ent 35 [.ref (fr x0 5), .int (1 : Int32), .ref (fr (fr x0 9) 0)], [], σ) (.inl none, σ2, 0))
    (k : Er (d + 1) 53 (213, [some (.ref x0), some (.int x1)], [], σ2) q) :
    Er (d + 1) 53 (198, [some (.ref x0), some (.int x1)], [], σ) q := Er.sT (c2 := (199, [some (.ref x0), some (.int x1)], [.ref x0], σ)) r53_198 rfl rfl <| Er.st (P := (x0 < 24 ∧ kls x0 = 4)) (c2 := (202, [some (.ref x0), some (.int x1)], [.ref (fr x0 5)], σ)) r53_199 rfl rfl h1 <| Er.sT (c2 := (203, [some (.ref x0), some (.int x1)], [.int (1 : Int32), .ref (fr x0 5)], σ)) r53_202 rfl rfl <| Er.sT (c2 := (204, [some (.ref x0), some (.int x1)], [.ref x0, .int (1 : Int32), .ref (fr x0 5)], σ)) r53_203 rfl rfl <| Er.st (P := (x0 < 24 ∧ kls x0 = 4)) (c2 := (207, [some (.ref x0), some (.int x1)], [.ref (fr x0 9), .int (1 : Int32), .ref (fr x0 5)], σ)) r53_204 rfl rfl h1 <| Er.st (P := ((fr x0 9) < 24 ∧ kls (fr x0 9) = 0)) (c2 := (210, [some (.ref x0), some (.int x1)], [.ref (fr (fr x0 9) 0), .int (1 : Int32), .ref (fr x0 5)], σ)) r53_207 rfl rfl h2 <| (Er.call (vs := [.ref (fr x0 5), .int (1 : Int32), .ref (fr (fr x0 9) 0)]) (rest := []) r53_210 rfl rfl (Nat.le_of_ble_eq_true rfl) (Nat.le_of_ble_eq_true rfl) (fun _ => ⟨_, _, rfl, h3⟩) hy k)
theorem b53_213 {d : Nat} {q : Rs} {x0 : Nat} {x1 : Int32} {σ : St} 
    (k : Er (d + 1) 53 (327, [some (.ref x0), some (.int x1)], [], σ) q) :
    Er (d + 1) 53 (213, [some (.ref x0), some (.int x1)], [], σ) q := Er.sT (c2 := (327, [some (.ref x0), some (.int x1)], [], σ)) r53_213 rfl rfl <| k
theorem b53_216 {d : Nat} {q : Rs} {x0 : Nat} {x1 : Int32} {σ : St} {σ2 : St} {r : Int64} (h1 : x0 < 24 ∧ kls x0 = 4) (h2 : (fr x0 4) < 24 ∧ kls (fr x0 4) = 3) (h3 : (fr (fr x0 4) 0) < 24 ∧ kls (fr (fr x0 4) 0) = 2)
    (hy : Er d 24 (0, ent 24 [.ref (fr (fr x0 4) 0)], [], σ) (.inl (some (.long r)), σ2, 0))
    (k : Er (d + 1) 53 (227, [some (.ref x0), some (.int x1)], [.long r, .ref x0], σ2) q) :
    Er (d + 1) 53 (216, [some (.ref x0), some (.int x1)], [], σ) q := Er.sT (c2 := (217, [some (.ref x0), some (.int x1)], [.ref x0], σ)) r53_216 rfl rfl <| Er.sT (c2 := (218, [some (.ref x0), some (.int x1)], [.ref x0, .ref x0], σ)) r53_217 rfl rfl <| Er.st (P := (x0 < 24 ∧ kls x0 = 4)) (c2 := (221, [some (.ref x0), some (.int x1)], [.ref (fr x0 4), .ref x0], σ)) r53_218 rfl rfl h1 <| Er.st (P := ((fr x0 4) < 24 ∧ kls (fr x0 4) = 3)) (c2 := (224, [some (.ref x0), some (.int x1)], [.ref (fr (fr x0 4) 0), .ref x0], σ)) r53_221 rfl rfl h2 <| (Er.call (vs := [.ref (fr (fr x0 4) 0)]) (rest := [.ref x0]) r53_224 rfl rfl (Nat.le_of_ble_eq_true rfl) (Nat.le_of_ble_eq_true rfl) (fun _ => ⟨_, _, rfl, h3⟩) hy k)
theorem b53_227 {d : Nat} {q : Rs} {x0 : Nat} {x1 : Int32} {s0 : Nat} {s1 : Int64} {σ : St} {σ2 : St}  (h1 : s0 < 24 ∧ kls s0 = 4)
    (hy : Er d 59 (0, ent 59 [.ref s0, .int (s1.toInt32)], [], σ) (.inl none, σ2, 0))
    (k : Er (d + 1) 53 (231, [some (.ref x0), some (.int x1)], [], σ2) q) :
    Er (d + 1) 53 (227, [some (.ref x0), some (.int x1)], [.long s1, .ref s0], σ) q := Er.sT (c2 := (228, [some (.ref x0), some (.int x1)], [.int (s1.toInt32), .ref s0], σ)) r53_227 rfl rfl <| (Er.call (vs := [.ref s0, .int (s1.toInt32)]) (rest := []) r53_228 rfl rfl (Nat.le_of_ble_eq_true rfl) (Nat.le_of_ble_eq_true rfl) (fun _ => ⟨_, _, rfl, h1⟩) hy k)
theorem b53_227x {d x c9 : Nat} {x0 : Nat} {x1 : Int32} {s0 : Nat} {s1 : Int64} {σ : St} {σ2 : St} (h1 : s0 < 24 ∧ kls s0 = 4) (hx : x < 4)
    (hy : Er d 59 (0, ent 59 [.ref s0, .int (s1.toInt32)], [], σ) (.inr x, σ2, c9)) :
    Er (d + 1) 53 (227, [some (.ref x0), some (.int x1)], [.long s1, .ref s0], σ) (.inr x, σ2, c9) := Er.sT (c2 := (228, [some (.ref x0), some (.int x1)], [.int (s1.toInt32), .ref s0], σ)) r53_227 rfl rfl <| (Er.callx (vs := [.ref s0, .int (s1.toInt32)]) (rest := []) r53_228 rfl rfl (Nat.le_of_ble_eq_true rfl) (Nat.le_of_ble_eq_true rfl) (fun _ => ⟨_, _, rfl, h1⟩) hx rfl rfl hy)
theorem b53_231 {d : Nat} {q : Rs} {x0 : Nat} {x1 : Int32} {σ : St} 
    (k : Er (d + 1) 53 (327, [some (.ref x0), some (.int x1)], [], σ) q) :
    Er (d + 1) 53 (231, [some (.ref x0), some (.int x1)], [], σ) q := Er.sT (c2 := (327, [some (.ref x0), some (.int x1)], [], σ)) r53_231 rfl rfl <| k
theorem b53_234 {d : Nat} {q : Rs} {x0 : Nat} {x1 : Int32} {σ : St} {σ2 : St}  (h1 : x0 < 24 ∧ kls x0 = 4) (h2 : (fr x0 5) < 24 ∧ kls (fr x0 5) = 3)
    (hy : Er d 36 (0, ent 36 [.ref (fr x0 5), .ref (fr x0 3)], [], σ) (.inl none, σ2, 0))
    (k : Er (d + 1) 53 (245, [some (.ref x0), some (.int x1)], [], σ2) q) :
    Er (d + 1) 53 (234, [some (.ref x0), some (.int x1)], [], σ) q := Er.sT (c2 := (235, [some (.ref x0), some (.int x1)], [.ref x0], σ)) r53_234 rfl rfl <| Er.st (P := (x0 < 24 ∧ kls x0 = 4)) (c2 := (238, [some (.ref x0), some (.int x1)], [.ref (fr x0 5)], σ)) r53_235 rfl rfl h1 <| Er.sT (c2 := (239, [some (.ref x0), some (.int x1)], [.ref x0, .ref (fr x0 5)], σ)) r53_238 rfl rfl <| Er.st (P := (x0 < 24 ∧ kls x0 = 4)) (c2 := (242, [some (.ref x0), some (.int x1)], [.ref (fr x0 3), .ref (fr x0 5)], σ)) r53_239 rfl rfl h1 <| (Er.call (vs := [.ref (fr x0 5), .ref (fr x0 3)]) (rest := []) r53_242 rfl rfl (Nat.le_of_ble_eq_true rfl) (Nat.le_of_ble_eq_true rfl) (fun _ => ⟨_, _, rfl, h2⟩) hy k)
theorem b53_245 {d : Nat} {q : Rs} {x0 : Nat} {x1 : Int32} {σ : St} {σ2 : St} {r : Int64} (h1 : x0 < 24 ∧ kls x0 = 4) (h2 : (fr x0 4) < 24 ∧ kls (fr x0 4) = 3) (h3 : (fr (fr x0 4) 0) < 24 ∧ kls (fr (fr x0 4) 0) = 2)
    (hy : Er d 24 (0, ent 24 [.ref (fr (fr x0 4) 0)], [], σ) (.inl (some (.long r)), σ2, 0))
    (k : Er (d + 1) 53 (266, [some (.ref x0), some (.int x1)], [.long r, .int (gfi σ (fr x0 4) 2), .ref (fr x0 5)], σ2) q) :
    Er (d + 1) 53 (245, [some (.ref x0), some (.int x1)], [], σ) q := Er.sT (c2 := (246, [some (.ref x0), some (.int x1)], [.ref x0], σ)) r53_245 rfl rfl <| Er.st (P := (x0 < 24 ∧ kls x0 = 4)) (c2 := (249, [some (.ref x0), some (.int x1)], [.ref (fr x0 5)], σ)) r53_246 rfl rfl h1 <| Er.sT (c2 := (250, [some (.ref x0), some (.int x1)], [.ref x0, .ref (fr x0 5)], σ)) r53_249 rfl rfl <| Er.st (P := (x0 < 24 ∧ kls x0 = 4)) (c2 := (253, [some (.ref x0), some (.int x1)], [.ref (fr x0 4), .ref (fr x0 5)], σ)) r53_250 rfl rfl h1 <| Er.st (P := ((fr x0 4) < 24 ∧ kls (fr x0 4) = 3)) (c2 := (256, [some (.ref x0), some (.int x1)], [.int (gfi σ (fr x0 4) 2), .ref (fr x0 5)], σ)) r53_253 rfl rfl h2 <| Er.sT (c2 := (257, [some (.ref x0), some (.int x1)], [.ref x0, .int (gfi σ (fr x0 4) 2), .ref (fr x0 5)], σ)) r53_256 rfl rfl <| Er.st (P := (x0 < 24 ∧ kls x0 = 4)) (c2 := (260, [some (.ref x0), some (.int x1)], [.ref (fr x0 4), .int (gfi σ (fr x0 4) 2), .ref (fr x0 5)], σ)) r53_257 rfl rfl h1 <| Er.st (P := ((fr x0 4) < 24 ∧ kls (fr x0 4) = 3)) (c2 := (263, [some (.ref x0), some (.int x1)], [.ref (fr (fr x0 4) 0), .int (gfi σ (fr x0 4) 2), .ref (fr x0 5)], σ)) r53_260 rfl rfl h2 <| (Er.call (vs := [.ref (fr (fr x0 4) 0)]) (rest := [.int (gfi σ (fr x0 4) 2), .ref (fr x0 5)]) r53_263 rfl rfl (Nat.le_of_ble_eq_true rfl) (Nat.le_of_ble_eq_true rfl) (fun _ => ⟨_, _, rfl, h3⟩) hy k)
theorem b53_266 {d : Nat} {q : Rs} {x0 : Nat} {x1 : Int32} {s0 : Nat} {s1 : Int32} {s2 : Int64} {σ : St} {σ2 : St}  (h1 : s0 < 24 ∧ kls s0 = 3)
    (hy : Er d 33 (0, ent 33 [.ref s0, .int (s1 * (s2.toInt32))], [], σ) (.inl none, σ2, 0))
    (k : Er (d + 1) 53 (271, [some (.ref x0), some (.int x1)], [], σ2) q) :
    Er (d + 1) 53 (266, [some (.ref x0), some (.int x1)], [.long s2, .int s1, .ref s0], σ) q := Er.sT (c2 := (267, [some (.ref x0), some (.int x1)], [.int (s2.toInt32), .int s1, .ref s0], σ)) r53_266 rfl rfl <| Er.sT (c2 := (268, [some (.ref x0), some (.int x1)], [.int (s1 * (s2.toInt32)), .ref s0], σ)) r53_267 rfl rfl <| (Er.call (vs := [.ref s0, .int (s1 * (s2.toInt32))]) (rest := []) r53_268 rfl rfl (Nat.le_of_ble_eq_true rfl) (Nat.le_of_ble_eq_true rfl) (fun _ => ⟨_, _, rfl, h1⟩) hy k)
theorem b53_266x {d x c9 : Nat} {x0 : Nat} {x1 : Int32} {s0 : Nat} {s1 : Int32} {s2 : Int64} {σ : St} {σ2 : St} (h1 : s0 < 24 ∧ kls s0 = 3) (hx : x < 4)
    (hy : Er d 33 (0, ent 33 [.ref s0, .int (s1 * (s2.toInt32))], [], σ) (.inr x, σ2, c9)) :
    Er (d + 1) 53 (266, [some (.ref x0), some (.int x1)], [.long s2, .int s1, .ref s0], σ) (.inr x, σ2, c9) := Er.sT (c2 := (267, [some (.ref x0), some (.int x1)], [.int (s2.toInt32), .int s1, .ref s0], σ)) r53_266 rfl rfl <| Er.sT (c2 := (268, [some (.ref x0), some (.int x1)], [.int (s1 * (s2.toInt32)), .ref s0], σ)) r53_267 rfl rfl <| (Er.callx (vs := [.ref s0, .int (s1 * (s2.toInt32))]) (rest := []) r53_268 rfl rfl (Nat.le_of_ble_eq_true rfl) (Nat.le_of_ble_eq_true rfl) (fun _ => ⟨_, _, rfl, h1⟩) hx rfl rfl hy)
theorem b53_271 {d : Nat} {q : Rs} {x0 : Nat} {x1 : Int32} {σ : St} 
    (k : Er (d + 1) 53 (327, [some (.ref x0), some (.int x1)], [], σ) q) :
    Er (d + 1) 53 (271, [some (.ref x0), some (.int x1)], [], σ) q := Er.sT (c2 := (327, [some (.ref x0), some (.int x1)], [], σ)) r53_271 rfl rfl <| k
theorem b53_274 {d : Nat} {q : Rs} {x0 : Nat} {x1 : Int32} {σ : St} {σ2 : St} {r : Int32} (h1 : x0 < 24 ∧ kls x0 = 4)
    (hy : Er d 61 (0, ent 61 [.ref x0], [], σ) (.inl (some (.int r)), σ2, 0))
    (k : Er (d + 1) 53 (282, [some (.ref x0), some (.int x1)], [.int r, .ref (fr x0 5)], σ2) q) :
    Er (d + 1) 53 (274, [some (.ref x0), some (.int x1)], [], σ) q := Er.sT (c2 := (275, [some (.ref x0), some (.int x1)], [.ref x0], σ)) r53_274 rfl rfl <| Er.st (P := (x0 < 24 ∧ kls x0 = 4)) (c2 := (278, [some (.ref x0), some (.int x1)], [.ref (fr x0 5)], σ)) r53_275 rfl rfl h1 <| Er.sT (c2 := (279, [some (.ref x0), some (.int x1)], [.ref x0, .ref (fr x0 5)], σ)) r53_278 rfl rfl <| (Er.call (vs := [.ref x0]) (rest := [.ref (fr x0 5)]) r53_279 rfl rfl (Nat.le_of_ble_eq_true rfl) (Nat.le_of_ble_eq_true rfl) (fun _ => ⟨_, _, rfl, h1⟩) hy k)
theorem b53_282 {d : Nat} {q : Rs} {x0 : Nat} {x1 : Int32} {s0 : Nat} {s1 : Int32} {σ : St} 
    (kt : (0 : Int32) < s1 → Er (d + 1) 53 (292, [some (.ref x0), some (.int x1)], [.ref s0], σ) q)
    (kf : ¬ (0 : Int32) < s1 → Er (d + 1) 53 (285, [some (.ref x0), some (.int x1)], [.ref s0], σ) q) :
    Er (d + 1) 53 (282, [some (.ref x0), some (.int x1)], [.int s1, .ref s0], σ) q := Er.sT (c2 := (brn .gt s1 (0 : Int32) 292 285, [some (.ref x0), some (.int x1)], [.ref s0], σ)) r53_282 rfl rfl <| (br_gt kt kf)
theorem b53_285 {d : Nat} {q : Rs} {x0 : Nat} {x1 : Int32} {s0 : Nat} {σ : St} (h1 : x0 < 24 ∧ kls x0 = 4)
    (k : Er (d + 1) 53 (296, [some (.ref x0), some (.int x1)], [.ref (fr x0 3), .ref s0], σ) q) :
    Er (d + 1) 53 (285, [some (.ref x0), some (.int x1)], [.ref s0], σ) q := Er.sT (c2 := (286, [some (.ref x0), some (.int x1)], [.ref x0, .ref s0], σ)) r53_285 rfl rfl <| Er.st (P := (x0 < 24 ∧ kls x0 = 4)) (c2 := (289, [some (.ref x0), some (.int x1)], [.ref (fr x0 3), .ref s0], σ)) r53_286 rfl rfl h1 <| Er.sT (c2 := (296, [some (.ref x0), some (.int x1)], [.ref (fr x0 3), .ref s0], σ)) r53_289 rfl rfl <| k
theorem b53_292 {d : Nat} {q : Rs} {x0 : Nat} {x1 : Int32} {s0 : Nat} {σ : St} (h1 : x0 < 24 ∧ kls x0 = 4)
    (k : Er (d + 1) 53 (296, [some (.ref x0), some (.int x1)], [.ref (fr x0 4), .ref s0], σ) q) :
    Er (d + 1) 53 (292, [some (.ref x0), some (.int x1)], [.ref s0], σ) q := Er.sT (c2 := (293, [some (.ref x0), some (.int x1)], [.ref x0, .ref s0], σ)) r53_292 rfl rfl <| Er.st (P := (x0 < 24 ∧ kls x0 = 4)) (c2 := (296, [some (.ref x0), some (.int x1)], [.ref (fr x0 4), .ref s0], σ)) r53_293 rfl rfl h1 <| k
theorem b53_296 {d : Nat} {q : Rs} {x0 : Nat} {x1 : Int32} {s0 : Nat} {s1 : Nat} {σ : St} {σ2 : St}  (h1 : s0 < 24 ∧ kls s0 = 3)
    (hy : Er d 36 (0, ent 36 [.ref s0, .ref s1], [], σ) (.inl none, σ2, 0))
    (k : Er (d + 1) 53 (299, [some (.ref x0), some (.int x1)], [], σ2) q) :
    Er (d + 1) 53 (296, [some (.ref x0), some (.int x1)], [.ref s1, .ref s0], σ) q := (Er.call (vs := [.ref s0, .ref s1]) (rest := []) r53_296 rfl rfl (Nat.le_of_ble_eq_true rfl) (Nat.le_of_ble_eq_true rfl) (fun _ => ⟨_, _, rfl, h1⟩) hy k)
theorem b53_299 {d : Nat} {q : Rs} {x0 : Nat} {x1 : Int32} {σ : St} 
    (k : Er (d + 1) 53 (327, [some (.ref x0), some (.int x1)], [], σ) q) :
    Er (d + 1) 53 (299, [some (.ref x0), some (.int x1)], [], σ) q := Er.sT (c2 := (327, [some (.ref x0), some (.int x1)], [], σ)) r53_299 rfl rfl <| k
theorem b53_302 {d : Nat} {q : Rs} {x0 : Nat} {x1 : Int32} {σ : St} {σ2 : St} {r : Int32} (h1 : x0 < 24 ∧ kls x0 = 4)
    (hy : Er d 61 (0, ent 61 [.ref x0], [], σ) (.inl (some (.int r)), σ2, 0))
    (k : Er (d + 1) 53 (310, [some (.ref x0), some (.int x1)], [.int r, .ref (fr x0 5)], σ2) q) :
    Er (d + 1) 53 (302, [some (.ref x0), some (.int x1)], [], σ) q := Er.sT (c2 := (303, [some (.ref x0), some (.int x1)], [.ref x0], σ)) r53_302 rfl rfl <| Er.st (P := (x0 < 24 ∧ kls x0 = 4)) (c2 := (306, [some (.ref x0), some (.int x1)], [.ref (fr x0 5)], σ)) r53_303 rfl rfl h1 <| Er.sT (c2 := (307, [some (.ref x0), some (.int x1)], [.ref x0, .ref (fr x0 5)], σ)) r53_306 rfl rfl <| (Er.call (vs := [.ref x0]) (rest := [.ref (fr x0 5)]) r53_307 rfl rfl (Nat.le_of_ble_eq_true rfl) (Nat.le_of_ble_eq_true rfl) (fun _ => ⟨_, _, rfl, h1⟩) hy k)
theorem b53_310 {d : Nat} {q : Rs} {x0 : Nat} {x1 : Int32} {s0 : Nat} {s1 : Int32} {σ : St} 
    (kt : s1 < (0 : Int32) → Er (d + 1) 53 (320, [some (.ref x0), some (.int x1)], [.ref s0], σ) q)
    (kf : ¬ s1 < (0 : Int32) → Er (d + 1) 53 (313, [some (.ref x0), some (.int x1)], [.ref s0], σ) q) :
    Er (d + 1) 53 (310, [some (.ref x0), some (.int x1)], [.int s1, .ref s0], σ) q := Er.sT (c2 := (brn .lt s1 (0 : Int32) 320 313, [some (.ref x0), some (.int x1)], [.ref s0], σ)) r53_310 rfl rfl <| (br_lt kt kf)
theorem b53_313 {d : Nat} {q : Rs} {x0 : Nat} {x1 : Int32} {s0 : Nat} {σ : St} (h1 : x0 < 24 ∧ kls x0 = 4)
    (k : Er (d + 1) 53 (324, [some (.ref x0), some (.int x1)], [.ref (fr x0 3), .ref s0], σ) q) :
    Er (d + 1) 53 (313, [some (.ref x0), some (.int x1)], [.ref s0], σ) q := Er.sT (c2 := (314, [some (.ref x0), some (.int x1)], [.ref x0, .ref s0], σ)) r53_313 rfl rfl <| Er.st (P := (x0 < 24 ∧ kls x0 = 4)) (c2 := (317, [some (.ref x0), some (.int x1)], [.ref (fr x0 3), .ref s0], σ)) r53_314 rfl rfl h1 <| Er.sT (c2 := (324, [some (.ref x0), some (.int x1)], [.ref (fr x0 3), .ref s0], σ)) r53_317 rfl rfl <| k
theorem b53_320 {d : Nat} {q : Rs} {x0 : Nat} {x1 : Int32} {s0 : Nat} {σ : St} (h1 : x0 < 24 ∧ kls x0 = 4)
    (k : Er (d + 1) 53 (324, [some (.ref x0), some (.int x1)], [.ref (fr x0 4), .ref s0], σ) q) :
    Er (d + 1) 53 (320, [some (.ref x0), some (.int x1)], [.ref s0], σ) q := Er.sT (c2 := (321, [some (.ref x0), some (.int x1)], [.ref x0, .ref s0], σ)) r53_320 rfl rfl <| Er.st (P := (x0 < 24 ∧ kls x0 = 4)) (c2 := (324, [some (.ref x0), some (.int x1)], [.ref (fr x0 4), .ref s0], σ)) r53_321 rfl rfl h1 <| k
theorem b53_324 {d : Nat} {q : Rs} {x0 : Nat} {x1 : Int32} {s0 : Nat} {s1 : Nat} {σ : St} {σ2 : St}  (h1 : s0 < 24 ∧ kls s0 = 3)
    (hy : Er d 36 (0, ent 36 [.ref s0, .ref s1], [], σ) (.inl none, σ2, 0))
    (k : Er (d + 1) 53 (327, [some (.ref x0), some (.int x1)], [], σ2) q) :
    Er (d + 1) 53 (324, [some (.ref x0), some (.int x1)], [.ref s1, .ref s0], σ) q := (Er.call (vs := [.ref s0, .ref s1]) (rest := []) r53_324 rfl rfl (Nat.le_of_ble_eq_true rfl) (Nat.le_of_ble_eq_true rfl) (fun _ => ⟨_, _, rfl, h1⟩) hy k)
theorem b53_327 {d : Nat} {x0 : Nat} {x1 : Int32} {σ : St}  :
    Er (d + 1) 53 (327, [some (.ref x0), some (.int x1)], [], σ) (.inl none, σ, 0) := (Er.ret r53_327 rfl ⟨rfl, rfl, rfl⟩)
/-! NumberModels.add(I)V -/
theorem tab_54 : tab 54 = tb54_0 ++ tb54_1 := rfl
theorem ch54_0 {j : Nat} {r : Row} (h : tb54_0[j]? = some r) : rowAt 54 r.1 = some r := row_mem 54 (by decide) (by rw [tab_54]; exact (List.mem_append_left _ (List.mem_of_getElem? h)))
theorem ch54_1 {j : Nat} {r : Row} (h : tb54_1[j]? = some r) : rowAt 54 r.1 = some r := row_mem 54 (by decide) (by rw [tab_54]; exact (List.mem_append_right _ (List.mem_of_getElem? h)))
theorem r54_0 : rowAt 54 0 = some (r0 0 1 (.aload_n 0)) := ch54_0 (j := 0) rfl
theorem r54_1 : rowAt 54 1 = some (ra 1 4 (.getfield 33) 6 4 196) := ch54_0 (j := 1) rfl
theorem r54_4 : rowAt 54 4 = some (r0 4 5 (.aload_n 0)) := ch54_0 (j := 2) rfl
theorem r54_5 : rowAt 54 5 = some (ra 5 8 (.getfield 20) 3 4 193) := ch54_0 (j := 3) rfl
theorem r54_8 : rowAt 54 8 = some (ra 8 11 (.getfield 65) 0 3 122) := ch54_0 (j := 4) rfl
theorem r54_11 : rowAt 54 11 = some (r0 11 12 (.aload_n 0)) := ch54_0 (j := 5) rfl
theorem r54_12 : rowAt 54 12 = some (ra 12 15 (.getfield 24) 4 4 194) := ch54_0 (j := 6) rfl
theorem r54_15 : rowAt 54 15 = some (ra 15 18 (.getfield 76) 1 3 124) := ch54_0 (j := 7) rfl
theorem r54_18 : rowAt 54 18 = some (ra 18 21 (.invokevirtual 290) 27 3 623) := ch54_0 (j := 8) rfl
theorem r54_21 : rowAt 54 21 = some (r0 21 22 (.aload_n 0)) := ch54_0 (j := 9) rfl
theorem r54_22 : rowAt 54 22 = some (ra 22 25 (.getfield 37) 7 4 197) := ch54_0 (j := 10) rfl
theorem r54_25 : rowAt 54 25 = some (r0 25 26 (.aload_n 0)) := ch54_0 (j := 11) rfl
theorem r54_26 : rowAt 54 26 = some (ra 26 29 (.getfield 24) 4 4 194) := ch54_0 (j := 12) rfl
theorem r54_29 : rowAt 54 29 = some (ra 29 32 (.getfield 65) 0 3 122) := ch54_0 (j := 13) rfl
theorem r54_32 : rowAt 54 32 = some (r0 32 33 (.aload_n 0)) := ch54_0 (j := 14) rfl
theorem r54_33 : rowAt 54 33 = some (ra 33 36 (.getfield 20) 3 4 193) := ch54_0 (j := 15) rfl
theorem r54_36 : rowAt 54 36 = some (ra 36 39 (.getfield 76) 1 3 124) := ch54_0 (j := 16) rfl
theorem r54_39 : rowAt 54 39 = some (ra 39 42 (.invokevirtual 290) 27 3 623) := ch54_0 (j := 17) rfl
theorem r54_42 : rowAt 54 42 = some (r0 42 43 (.aload_n 0)) := ch54_0 (j := 18) rfl
theorem r54_43 : rowAt 54 43 = some (ra 43 46 (.getfield 27) 5 4 195) := ch54_0 (j := 19) rfl
theorem r54_46 : rowAt 54 46 = some (ra 46 49 (.getfield 76) 1 3 124) := ch54_0 (j := 20) rfl
theorem r54_49 : rowAt 54 49 = some (r0 49 50 (.aload_n 0)) := ch54_0 (j := 21) rfl
theorem r54_50 : rowAt 54 50 = some (ra 50 53 (.getfield 20) 3 4 193) := ch54_0 (j := 22) rfl
theorem r54_53 : rowAt 54 53 = some (ra 53 56 (.getfield 76) 1 3 124) := ch54_0 (j := 23) rfl
theorem r54_56 : rowAt 54 56 = some (r0 56 57 (.aload_n 0)) := ch54_0 (j := 24) rfl
theorem r54_57 : rowAt 54 57 = some (ra 57 60 (.getfield 24) 4 4 194) := ch54_0 (j := 25) rfl
theorem r54_60 : rowAt 54 60 = some (ra 60 63 (.getfield 76) 1 3 124) := ch54_0 (j := 26) rfl
theorem r54_63 : rowAt 54 63 = some (ra 63 66 (.invokevirtual 290) 27 3 623) := ch54_0 (j := 27) rfl
theorem r54_66 : rowAt 54 66 = some (r0 66 67 (.aload_n 0)) := ch54_0 (j := 28) rfl
theorem r54_67 : rowAt 54 67 = some (ra 67 70 (.getfield 33) 6 4 196) := ch54_0 (j := 29) rfl
theorem r54_70 : rowAt 54 70 = some (r0 70 71 (.aload_n 0)) := ch54_0 (j := 30) rfl
theorem r54_71 : rowAt 54 71 = some (ra 71 74 (.getfield 37) 7 4 197) := ch54_0 (j := 31) rfl
theorem r54_74 : rowAt 54 74 = some (ra 74 77 (.invokevirtual 293) 20 2 627) := ch54_0 (j := 32) rfl
theorem r54_77 : rowAt 54 77 = some (ra 77 80 (.ifCond .lt 7) 84 0 0) := ch54_0 (j := 33) rfl
theorem r54_80 : rowAt 54 80 = some (80, 81, .iconst 1, 0, 0, 0, 1, 0) := ch54_0 (j := 34) rfl
theorem r54_81 : rowAt 54 81 = some (ra 81 84 (.goto 4) 85 0 0) := ch54_0 (j := 35) rfl
theorem r54_84 : rowAt 54 84 = some (r0 84 85 (.iconst 0)) := ch54_0 (j := 36) rfl
theorem r54_85 : rowAt 54 85 = some (ra 85 86 (.istore_n 2) 2 0 0) := ch54_0 (j := 37) rfl
theorem r54_86 : rowAt 54 86 = some (r0 86 87 (.aload_n 0)) := ch54_0 (j := 38) rfl
theorem r54_87 : rowAt 54 87 = some (ra 87 90 (.getfield 27) 5 4 195) := ch54_0 (j := 39) rfl
theorem r54_90 : rowAt 54 90 = some (ra 90 91 (.iload_n 2) 2 0 0) := ch54_0 (j := 40) rfl
theorem r54_91 : rowAt 54 91 = some (ra 91 94 (.ifCond .eq 13) 104 0 0) := ch54_0 (j := 41) rfl
theorem r54_94 : rowAt 54 94 = some (r0 94 95 (.aload_n 0)) := ch54_0 (j := 42) rfl
theorem r54_95 : rowAt 54 95 = some (ra 95 98 (.getfield 20) 3 4 193) := ch54_0 (j := 43) rfl
theorem r54_98 : rowAt 54 98 = some (ra 98 101 (.getfield 62) 2 3 126) := ch54_0 (j := 44) rfl
theorem r54_101 : rowAt 54 101 = some (ra 101 104 (.goto 4) 105 0 0) := ch54_0 (j := 45) rfl
theorem r54_104 : rowAt 54 104 = some (ra 104 105 (.iload_n 1) 1 0 0) := ch54_0 (j := 46) rfl
theorem r54_105 : rowAt 54 105 = some (ra 105 108 (.putfield 62) 2 3 126) := ch54_0 (j := 47) rfl
theorem r54_108 : rowAt 54 108 = some (r0 108 109 (.aload_n 0)) := ch54_0 (j := 48) rfl
theorem r54_109 : rowAt 54 109 = some (ra 109 112 (.getfield 27) 5 4 195) := ch54_0 (j := 49) rfl
theorem r54_112 : rowAt 54 112 = some (ra 112 115 (.getfield 65) 0 3 122) := ch54_0 (j := 50) rfl
theorem r54_115 : rowAt 54 115 = some (ra 115 116 (.iload_n 2) 2 0 0) := ch54_0 (j := 51) rfl
theorem r54_116 : rowAt 54 116 = some (ra 116 119 (.ifCond .eq 10) 126 0 0) := ch54_0 (j := 52) rfl
theorem r54_119 : rowAt 54 119 = some (r0 119 120 (.aload_n 0)) := ch54_0 (j := 53) rfl
theorem r54_120 : rowAt 54 120 = some (ra 120 123 (.getfield 33) 6 4 196) := ch54_0 (j := 54) rfl
theorem r54_123 : rowAt 54 123 = some (ra 123 126 (.goto 7) 130 0 0) := ch54_0 (j := 55) rfl
theorem r54_126 : rowAt 54 126 = some (r0 126 127 (.aload_n 0)) := ch54_0 (j := 56) rfl
theorem r54_127 : rowAt 54 127 = some (ra 127 130 (.getfield 37) 7 4 197) := ch54_0 (j := 57) rfl
theorem r54_130 : rowAt 54 130 = some (ra 130 133 (.invokevirtual 297) 19 2 486) := ch54_0 (j := 58) rfl
theorem r54_133 : rowAt 54 133 = some (ra 133 134 (.iload_n 2) 2 0 0) := ch54_0 (j := 59) rfl
theorem r54_134 : rowAt 54 134 = some (ra 134 137 (.ifCond .eq 10) 144 0 0) := ch54_1 (j := 0) rfl
theorem r54_137 : rowAt 54 137 = some (r0 137 138 (.aload_n 0)) := ch54_1 (j := 1) rfl
theorem r54_138 : rowAt 54 138 = some (ra 138 141 (.getfield 37) 7 4 197) := ch54_1 (j := 2) rfl
theorem r54_141 : rowAt 54 141 = some (ra 141 144 (.goto 7) 148 0 0) := ch54_1 (j := 3) rfl
theorem r54_144 : rowAt 54 144 = some (r0 144 145 (.aload_n 0)) := ch54_1 (j := 4) rfl
theorem r54_145 : rowAt 54 145 = some (ra 145 148 (.getfield 33) 6 4 196) := ch54_1 (j := 5) rfl
theorem r54_148 : rowAt 54 148 = some (ra 148 149 (.astore_n 3) 3 0 0) := ch54_1 (j := 6) rfl
theorem r54_149 : rowAt 54 149 = some (r0 149 150 (.aload_n 0)) := ch54_1 (j := 7) rfl
theorem r54_150 : rowAt 54 150 = some (ra 150 153 (.getfield 20) 3 4 193) := ch54_1 (j := 8) rfl
theorem r54_153 : rowAt 54 153 = some (ra 153 156 (.getfield 62) 2 3 126) := ch54_1 (j := 9) rfl
theorem r54_156 : rowAt 54 156 = some (ra 156 157 (.iload_n 1) 1 0 0) := ch54_1 (j := 10) rfl
theorem r54_157 : rowAt 54 157 = some (r0 157 158 (.imul)) := ch54_1 (j := 11) rfl
theorem r54_158 : rowAt 54 158 = some (ra 158 161 (.ifCond .ge 17) 175 0 0) := ch54_1 (j := 12) rfl
theorem r54_161 : rowAt 54 161 = some (r0 161 162 (.aload_n 0)) := ch54_1 (j := 13) rfl
theorem r54_162 : rowAt 54 162 = some (ra 162 165 (.getfield 27) 5 4 195) := ch54_1 (j := 14) rfl
theorem r54_165 : rowAt 54 165 = some (ra 165 168 (.getfield 65) 0 3 122) := ch54_1 (j := 15) rfl
theorem r54_168 : rowAt 54 168 = some (ra 168 169 (.aload_n 3) 3 0 0) := ch54_1 (j := 16) rfl
theorem r54_169 : rowAt 54 169 = some (ra 169 172 (.invokevirtual 299) 28 2 628) := ch54_1 (j := 17) rfl
theorem r54_172 : rowAt 54 172 = some (ra 172 175 (.goto 14) 186 0 0) := ch54_1 (j := 18) rfl
theorem r54_175 : rowAt 54 175 = some (r0 175 176 (.aload_n 0)) := ch54_1 (j := 19) rfl
theorem r54_176 : rowAt 54 176 = some (ra 176 179 (.getfield 27) 5 4 195) := ch54_1 (j := 20) rfl
theorem r54_179 : rowAt 54 179 = some (ra 179 182 (.getfield 65) 0 3 122) := ch54_1 (j := 21) rfl
theorem r54_182 : rowAt 54 182 = some (ra 182 183 (.aload_n 3) 3 0 0) := ch54_1 (j := 22) rfl
theorem r54_183 : rowAt 54 183 = some (ra 183 186 (.invokevirtual 302) 29 2 632) := ch54_1 (j := 23) rfl
theorem r54_186 : rowAt 54 186 = some (r0 186 187 (.return_)) := ch54_1 (j := 24) rfl
theorem b54_0 {d : Nat} {q : Rs} {x0 : Nat} {x1 : Int32} {σ : St} {σ2 : St}  (h1 : x0 < 24 ∧ kls x0 = 4) (h2 : (fr x0 3) < 24 ∧ kls (fr x0 3) = 3) (h3 : (fr x0 4) < 24 ∧ kls (fr x0 4) = 3) (h4 : (fr x0 6) < 24 ∧ kls (fr x0 6) = 2)
    (hy : Er d 27 (0, ent 27 [.ref (fr x0 6), .ref (fr (fr x0 3) 0), .ref (fr (fr x0 4) 1)], [], σ) (.inl none, σ2, 0))
    (k : Er (d + 1) 54 (21, [some (.ref x0), some (.int x1), none, none], [], σ2) q) :
    Er (d + 1) 54 (0, [some (.ref x0), some (.int x1), none, none], [], σ) q := Er.sT (c2 := (1, [some (.ref x0), some (.int x1), none, none], [.ref x0], σ)) r54_0 rfl rfl <| Er.st (P := (x0 < 24 ∧ kls x0 = 4)) (c2 := (4, [some (.ref x0), some (.int x1), none, none], [.ref (fr x0 6)], σ)) r54_1 rfl rfl h1 <| Er.sT (c2 := (5, [some (.ref x0), some (.int x1), none, none], [.ref x0, .ref (fr x0 6)], σ)) r54_4 rfl rfl <| Er.st (P := (x0 < 24 ∧ kls x0 = 4)) (c2 := (8, [some (.ref x0), some (.int x1), none, none], [.ref (fr x0 3), .ref (fr x0 6)], σ)) r54_5 rfl rfl h1 <| Er.st (P := ((fr x0 3) < 24 ∧ kls (fr x0 3) = 3)) (c2 := (11, [some (.ref x0), some (.int x1), none, none], [.ref (fr (fr x0 3) 0), .ref (fr x0 6)], σ)) r54_8 rfl rfl h2 <| Er.sT (c2 := (12, [some (.ref x0), some (.int x1), none, none], [.ref x0, .ref (fr (fr x0 3) 0), .ref (fr x0 6)], σ)) r54_11 rfl rfl <| Er.st (P := (x0 < 24 ∧ kls x0 = 4)) (c2 := (15, [some (.ref x0), some (.int x1), none, none], [.ref (fr x0 4), .ref (fr (fr x0 3) 0), .ref (fr x0 6)], σ)) r54_12 rfl rfl h1 <| Er.st (P := ((fr x0 4) < 24 ∧ kls (fr x0 4) = 3)) (c2 := (18, [some (.ref x0), some (.int x1), none, none], [.ref (fr (fr x0 4) 1), .ref (fr (fr x0 3) 0), .ref (fr x0 6)], σ)) r54_15 rfl rfl h3 <| (Er.call (vs := [.ref (fr x0 6), .ref (fr (fr x0 3) 0), .ref (fr (fr x0 4) 1)]) (rest := []) r54_18 rfl rfl (Nat.le_of_ble_eq_true rfl) (Nat.le_of_ble_eq_true rfl) (fun _ => ⟨_, _, rfl, h4⟩) hy k)
theorem b54_21 {d : Nat} {q : Rs} {x0 : Nat} {x1 : Int32} {σ : St} {σ2 : St}  (h1 : x0 < 24 ∧ kls x0 = 4) (h2 : (fr x0 4) < 24 ∧ kls (fr x0 4) = 3) (h3 : (fr x0 3) < 24 ∧ kls (fr x0 3) = 3) (h4 : (fr x0 7) < 24 ∧ kls (fr x0 7) = 2)
    (hy : Er d 27 (0, ent 27 [.ref (fr x0 7), .ref (fr (fr x0 4) 0), .ref (fr (fr x0 3) 1)], [], σ) (.inl none, σ2, 0))
    (k : Er (d + 1) 54 (42, [some (.ref x0), some (.int x1), none, none], [], σ2) q) :
    Er (d + 1) 54 (21, [some (.ref x0), some (.int x1), none, none], [], σ) q := Er.sT (c2 := (22, [some (.ref x0), some (.int x1), none, none], [.ref x0], σ)) r54_21 rfl rfl <| Er.st (P := (x0 < 24 ∧ kls x0 = 4)) (c2 := (25, [some (.ref x0), some (.int x1), none, none], [.ref (fr x0 7)], σ)) r54_22 rfl rfl h1 <| Er.sT (c2 := (26, [some (.ref x0), some (.int x1), none, none], [.ref x0, .ref (fr x0 7)], σ)) r54_25 rfl rfl <| Er.st (P := (x0 < 24 ∧ kls x0 = 4)) (c2 := (29, [some (.ref x0), some (.int x1), none, none], [.ref (fr x0 4), .ref (fr x0 7)], σ)) r54_26 rfl rfl h1 <| Er.st (P := ((fr x0 4) < 24 ∧ kls (fr x0 4) = 3)) (c2 := (32, [some (.ref x0), some (.int x1), none, none], [.ref (fr (fr x0 4) 0), .ref (fr x0 7)], σ)) r54_29 rfl rfl h2 <| Er.sT (c2 := (33, [some (.ref x0), some (.int x1), none, none], [.ref x0, .ref (fr (fr x0 4) 0), .ref (fr x0 7)], σ)) r54_32 rfl rfl <| Er.st (P := (x0 < 24 ∧ kls x0 = 4)) (c2 := (36, [some (.ref x0), some (.int x1), none, none], [.ref (fr x0 3), .ref (fr (fr x0 4) 0), .ref (fr x0 7)], σ)) r54_33 rfl rfl h1 <| Er.st (P := ((fr x0 3) < 24 ∧ kls (fr x0 3) = 3)) (c2 := (39, [some (.ref x0), some (.int x1), none, none], [.ref (fr (fr x0 3) 1), .ref (fr (fr x0 4) 0), .ref (fr x0 7)], σ)) r54_36 rfl rfl h3 <| (Er.call (vs := [.ref (fr x0 7), .ref (fr (fr x0 4) 0), .ref (fr (fr x0 3) 1)]) (rest := []) r54_39 rfl rfl (Nat.le_of_ble_eq_true rfl) (Nat.le_of_ble_eq_true rfl) (fun _ => ⟨_, _, rfl, h4⟩) hy k)
theorem b54_42 {d : Nat} {q : Rs} {x0 : Nat} {x1 : Int32} {σ : St} {σ2 : St}  (h1 : x0 < 24 ∧ kls x0 = 4) (h2 : (fr x0 5) < 24 ∧ kls (fr x0 5) = 3) (h3 : (fr x0 3) < 24 ∧ kls (fr x0 3) = 3) (h4 : (fr x0 4) < 24 ∧ kls (fr x0 4) = 3) (h5 : (fr (fr x0 5) 1) < 24 ∧ kls (fr (fr x0 5) 1) = 2)
    (hy : Er d 27 (0, ent 27 [.ref (fr (fr x0 5) 1), .ref (fr (fr x0 3) 1), .ref (fr (fr x0 4) 1)], [], σ) (.inl none, σ2, 0))
    (k : Er (d + 1) 54 (66, [some (.ref x0), some (.int x1), none, none], [], σ2) q) :
    Er (d + 1) 54 (42, [some (.ref x0), some (.int x1), none, none], [], σ) q := Er.sT (c2 := (43, [some (.ref x0), some (.int x1), none, none], [.ref x0], σ)) r54_42 rfl rfl <| Er.st (P := (x0 < 24 ∧ kls x0 = 4)) (c2 := (46, [some (.ref x0), some (.int x1), none, none], [.ref (fr x0 5)], σ)) r54_43 rfl rfl h1 <| Er.st (P := ((fr x0 5) < 24 ∧ kls (fr x0 5) = 3)) (c2 := (49, [some (.ref x0), some (.int x1), none, none], [.ref (fr (fr x0 5) 1)], σ)) r54_46 rfl rfl h2 <| Er.sT (c2 := (50, [some (.ref x0), some (.int x1), none, none], [.ref x0, .ref (fr (fr x0 5) 1)], σ)) r54_49 rfl rfl <| Er.st (P := (x0 < 24 ∧ kls x0 = 4)) (c2 := (53, [some (.ref x0), some (.int x1), none, none], [.ref (fr x0 3), .ref (fr (fr x0 5) 1)], σ)) r54_50 rfl rfl h1 <| Er.st (P := ((fr x0 3) < 24 ∧ kls (fr x0 3) = 3)) (c2 := (56, [some (.ref x0), some (.int x1), none, none], [.ref (fr (fr x0 3) 1), .ref (fr (fr x0 5) 1)], σ)) r54_53 rfl rfl h3 <| Er.sT (c2 := (57, [some (.ref x0), some (.int x1), none, none], [.ref x0, .ref (fr (fr x0 3) 1), .ref (fr (fr x0 5) 1)], σ)) r54_56 rfl rfl <| Er.st (P := (x0 < 24 ∧ kls x0 = 4)) (c2 := (60, [some (.ref x0), some (.int x1), none, none], [.ref (fr x0 4), .ref (fr (fr x0 3) 1), .ref (fr (fr x0 5) 1)], σ)) r54_57 rfl rfl h1 <| Er.st (P := ((fr x0 4) < 24 ∧ kls (fr x0 4) = 3)) (c2 := (63, [some (.ref x0), some (.int x1), none, none], [.ref (fr (fr x0 4) 1), .ref (fr (fr x0 3) 1), .ref (fr (fr x0 5) 1)], σ)) r54_60 rfl rfl h4 <| (Er.call (vs := [.ref (fr (fr x0 5) 1), .ref (fr (fr x0 3) 1), .ref (fr (fr x0 4) 1)]) (rest := []) r54_63 rfl rfl (Nat.le_of_ble_eq_true rfl) (Nat.le_of_ble_eq_true rfl) (fun _ => ⟨_, _, rfl, h5⟩) hy k)
theorem b54_66 {d : Nat} {q : Rs} {x0 : Nat} {x1 : Int32} {σ : St} {σ2 : St} {r : Int32} (h1 : x0 < 24 ∧ kls x0 = 4) (h2 : (fr x0 6) < 24 ∧ kls (fr x0 6) = 2)
    (hy : Er d 20 (0, ent 20 [.ref (fr x0 6), .ref (fr x0 7)], [], σ) (.inl (some (.int r)), σ2, 0))
    (k : Er (d + 1) 54 (77, [some (.ref x0), some (.int x1), none, none], [.int r], σ2) q) :
    Er (d + 1) 54 (66, [some (.ref x0), some (.int x1), none, none], [], σ) q := Er.sT (c2 := (67, [some (.ref x0), some (.int x1), none, none], [.ref x0], σ)) r54_66 rfl rfl <| Er.st (P := (x0 < 24 ∧ kls x0 = 4)) (c2 := (70, [some (.ref x0), some (.int x1), none, none], [.ref (fr x0 6)], σ)) r54_67 rfl rfl h1 <| Er.sT (c2 := (71, [some (.ref x0), some (.int x1), none, none], [.ref x0, .ref (fr x0 6)], σ)) r54_70 rfl rfl <| Er.st (P := (x0 < 24 ∧ kls x0 = 4)) (c2 := (74, [some (.ref x0), some (.int x1), none, none], [.ref (fr x0 7), .ref (fr x0 6)], σ)) r54_71 rfl rfl h1 <| (Er.call (vs := [.ref (fr x0 6), .ref (fr x0 7)]) (rest := []) r54_74 rfl rfl (Nat.le_of_ble_eq_true rfl) (Nat.le_of_ble_eq_true rfl) (fun _ => ⟨_, _, rfl, h2⟩) hy k)
theorem b54_77 {d : Nat} {q : Rs} {x0 : Nat} {x1 : Int32} {s0 : Int32} {σ : St} 
    (kt : s0 < (0 : Int32) → Er (d + 1) 54 (84, [some (.ref x0), some (.int x1), none, none], [], σ) q)
    (kf : ¬ s0 < (0 : Int32) → Er (d + 1) 54 (80, [some (.ref x0), some (.int x1), none, none], [], σ) q) :
    Er (d + 1) 54 (77, [some (.ref x0), some (.int x1), none, none], [.int s0], σ) q := Er.sT (c2 := (brn .lt s0 (0 : Int32) 84 80, [some (.ref x0), some (.int x1), none, none], [], σ)) r54_77 rfl rfl <| (br_lt kt kf)
theorem b54_80 {d : Nat} {q : Rs} {x0 : Nat} {x1 : Int32} {σ : St} 
    (k : Er (d + 1) 54 (85, [some (.ref x0), some (.int x1), none, none], [.int (1 : Int32)], σ) q) :
    Er (d + 1) 54 (80, [some (.ref x0), some (.int x1), none, none], [], σ) q := Er.sT (c2 := (81, [some (.ref x0), some (.int x1), none, none], [.int (1 : Int32)], σ)) r54_80 rfl rfl <| Er.sT (c2 := (85, [some (.ref x0), some (.int x1), none, none], [.int (1 : Int32)], σ)) r54_81 rfl rfl <| k
theorem b54_84 {d : Nat} {q : Rs} {x0 : Nat} {x1 : Int32} {σ : St} 
    (k : Er (d + 1) 54 (85, [some (.ref x0), some (.int x1), none, none], [.int (0 : Int32)], σ) q) :
    Er (d + 1) 54 (84, [some (.ref x0), some (.int x1), none, none], [], σ) q := Er.sT (c2 := (85, [some (.ref x0), some (.int x1), none, none], [.int (0 : Int32)], σ)) r54_84 rfl rfl <| k
theorem b54_85 {d : Nat} {q : Rs} {x0 : Nat} {x1 : Int32} {s0 : Int32} {σ : St} (h1 : x0 < 24 ∧ kls x0 = 4)
    (kt : s0 = (0 : Int32) → Er (d + 1) 54 (104, [some (.ref x0), some (.int x1), some (.int s0), none], [.ref (fr x0 5)], σ) q)
    (kf : ¬ s0 = (0 : Int32) → Er (d + 1) 54 (94, [some (.ref x0), some (.int x1), some (.int s0), none], [.ref (fr x0 5)], σ) q) :
    Er (d + 1) 54 (85, [some (.ref x0), some (.int x1), none, none], [.int s0], σ) q := Er.sT (c2 := (86, [some (.ref x0), some (.int x1), some (.int s0), none], [], σ)) r54_85 rfl rfl <| Er.sT (c2 := (87, [some (.ref x0), some (.int x1), some (.int s0), none], [.ref x0], σ)) r54_86 rfl rfl <| Er.st (P := (x0 < 24 ∧ kls x0 = 4)) (c2 := (90, [some (.ref x0), some (.int x1), some (.int s0), none], [.ref (fr x0 5)], σ)) r54_87 rfl rfl h1 <| Er.sT (c2 := (91, [some (.ref x0), some (.int x1), some (.int s0), none], [.int s0, .ref (fr x0 5)], σ)) r54_90 rfl rfl <| Er.sT (c2 := (brn .eq s0 (0 : Int32) 104 94, [some (.ref x0), some (.int x1), some (.int s0), none], [.ref (fr x0 5)], σ)) r54_91 rfl rfl <| (br_eq kt kf)
theorem b54_94 {d : Nat} {q : Rs} {x0 : Nat} {x1 : Int32} {x2 : Int32} {s0 : Nat} {σ : St} (h1 : x0 < 24 ∧ kls x0 = 4) (h2 : (fr x0 3) < 24 ∧ kls (fr x0 3) = 3)
    (k : Er (d + 1) 54 (105, [some (.ref x0), some (.int x1), some (.int x2), none], [.int (gfi σ (fr x0 3) 2), .ref s0], σ) q) :
    Er (d + 1) 54 (94, [some (.ref x0), some (.int x1), some (.int x2), none], [.ref s0], σ) q := Er.sT (c2 := (95, [some (.ref x0), some (.int x1), some (.int x2), none], [.ref x0, .ref s0], σ)) r54_94 rfl rfl <| Er.st (P := (x0 < 24 ∧ kls x0 = 4)) (c2 := (98, [some (.ref x0), some (.int x1), some (.int x2), none], [.ref (fr x0 3), .ref s0], σ)) r54_95 rfl rfl h1 <| Er.st (P := ((fr x0 3) < 24 ∧ kls (fr x0 3) = 3)) (c2 := (101, [some (.ref x0), some (.int x1), some (.int x2), none], [.int (gfi σ (fr x0 3) 2), .ref s0], σ)) r54_98 rfl rfl h2 <| Er.sT (c2 := (105, [some (.ref x0), some (.int x1), some (.int x2), none], [.int (gfi σ (fr x0 3) 2), .ref s0], σ)) r54_101 rfl rfl <| k
theorem b54_104 {d : Nat} {q : Rs} {x0 : Nat} {x1 : Int32} {x2 : Int32} {s0 : Nat} {σ : St} 
    (k : Er (d + 1) 54 (105, [some (.ref x0), some (.int x1), some (.int x2), none], [.int x1, .ref s0], σ) q) :
    Er (d + 1) 54 (104, [some (.ref x0), some (.int x1), some (.int x2), none], [.ref s0], σ) q := Er.sT (c2 := (105, [some (.ref x0), some (.int x1), some (.int x2), none], [.int x1, .ref s0], σ)) r54_104 rfl rfl <| k
theorem b54_105 {d : Nat} {q : Rs} {x0 : Nat} {x1 : Int32} {x2 : Int32} {s0 : Nat} {s1 : Int32} {σ : St} (h1 : s0 < 24 ∧ kls s0 = 3 ∧ ft 3 2 = 0) (h2 : x0 < 24 ∧ kls x0 = 4) (h3 : (fr x0 5) < 24 ∧ kls (fr x0 5) = 3)
    (kt : x2 = (0 : Int32) → Er (d + 1) 54 (126, [some (.ref x0), some (.int x1), some (.int x2), none], [.ref (fr (fr x0 5) 0)], (sfi σ s0 2 s1)) q)
    (kf : ¬ x2 = (0 : Int32) → Er (d + 1) 54 (119, [some (.ref x0), some (.int x1), some (.int x2), none], [.ref (fr (fr x0 5) 0)], (sfi σ s0 2 s1)) q) :
    Er (d + 1) 54 (105, [some (.ref x0), some (.int x1), some (.int x2), none], [.int s1, .ref s0], σ) q := Er.st (P := (s0 < 24 ∧ kls s0 = 3 ∧ ft 3 2 = 0)) (c2 := (108, [some (.ref x0), some (.int x1), some (.int x2), none], [], (sfi σ s0 2 s1))) r54_105 rfl rfl h1 <| Er.sT (c2 := (109, [some (.ref x0), some (.int x1), some (.int x2), none], [.ref x0], (sfi σ s0 2 s1))) r54_108 rfl rfl <| Er.st (P := (x0 < 24 ∧ kls x0 = 4)) (c2 := (112, [some (.ref x0), some (.int x1), some (.int x2), none], [.ref (fr x0 5)], (sfi σ s0 2 s1))) r54_109 rfl rfl h2 <| Er.st (P := ((fr x0 5) < 24 ∧ kls (fr x0 5) = 3)) (c2 := (115, [some (.ref x0), some (.int x1), some (.int x2), none], [.ref (fr (fr x0 5) 0)], (sfi σ s0 2 s1))) r54_112 rfl rfl h3 <| Er.sT (c2 := (116, [some (.ref x0), some (.int x1), some (.int x2), none], [.int x2, .ref (fr (fr x0 5) 0)], (sfi σ s0 2 s1))) r54_115 rfl rfl <| Er.sT (c2 := (brn .eq x2 (0 : Int32) 126 119, [some (.ref x0), some (.int x1), some (.int x2), none], [.ref (fr (fr x0 5) 0)], (sfi σ s0 2 s1))) r54_116 rfl rfl <| (br_eq kt kf)
theorem b54_119 {d : Nat} {q : Rs} {x0 : Nat} {x1 : Int32} {x2 : Int32} {s0 : Nat} {σ : St} (h1 : x0 < 24 ∧ kls x0 = 4)
    (k : Er (d + 1) 54 (130, [some (.ref x0), some (.int x1), some (.int x2), none], [.ref (fr x0 6), .ref s0], σ) q) :
    Er (d + 1) 54 (119, [some (.ref x0), some (.int x1), some (.int x2), none], [.ref s0], σ) q := Er.sT (c2 := (120, [some (.ref x0), some (.int x1), some (.int x2), none], [.ref x0, .ref s0], σ)) r54_119 rfl rfl <| Er.st (P := (x0 < 24 ∧ kls x0 = 4)) (c2 := (123, [some (.ref x0), some (.int x1), some (.int x2), none], [.ref (fr x0 6), .ref s0], σ)) r54_120 rfl rfl h1 <| Er.sT (c2 := (130, [some (.ref x0), some (.int x1), some (.int x2), none], [.ref (fr x0 6), .ref s0], σ)) r54_123 rfl rfl <| k
theorem b54_126 {d : Nat} {q : Rs} {x0 : Nat} {x1 : Int32} {x2 : Int32} {s0 : Nat} {σ : St} (h1 : x0 < 24 ∧ kls x0 = 4)
    (k : Er (d + 1) 54 (130, [some (.ref x0), some (.int x1), some (.int x2), none], [.ref (fr x0 7), .ref s0], σ) q) :
    Er (d + 1) 54 (126, [some (.ref x0), some (.int x1), some (.int x2), none], [.ref s0], σ) q := Er.sT (c2 := (127, [some (.ref x0), some (.int x1), some (.int x2), none], [.ref x0, .ref s0], σ)) r54_126 rfl rfl <| Er.st (P := (x0 < 24 ∧ kls x0 = 4)) (c2 := (130, [some (.ref x0), some (.int x1), some (.int x2), none], [.ref (fr x0 7), .ref s0], σ)) r54_127 rfl rfl h1 <| k
theorem b54_130 {d : Nat} {q : Rs} {x0 : Nat} {x1 : Int32} {x2 : Int32} {s0 : Nat} {s1 : Nat} {σ : St} {σ2 : St}  (h1 : s0 < 24 ∧ kls s0 = 2)
    (hy : Er d 19 (0, ent 19 [.ref s0, .ref s1], [], σ) (.inl none, σ2, 0))
    (k : Er (d + 1) 54 (133, [some (.ref x0), some (.int x1), some (.int x2), none], [], σ2) q) :
    Er (d + 1) 54 (130, [some (.ref x0), some (.int x1), some (.int x2), none], [.ref s1, .ref s0], σ) q := (Er.call (vs := [.ref s0, .ref s1]) (rest := []) r54_130 rfl rfl (Nat.le_of_ble_eq_true rfl) (Nat.le_of_ble_eq_true rfl) (fun _ => ⟨_, _, rfl, h1⟩) hy k)
theorem b54_133 {d : Nat} {q : Rs} {x0 : Nat} {x1 : Int32} {x2 : Int32} {σ : St} 
    (kt : x2 = (0 : Int32) → Er (d + 1) 54 (144, [some (.ref x0), some (.int x1), some (.int x2), none], [], σ) q)
    (kf : ¬ x2 = (0 : Int32) → Er (d + 1) 54 (137, [some (.ref x0), some (.int x1), some (.int x2), none], [], σ) q) :
    Er (d + 1) 54 (133, [some (.ref x0), some (.int x1), some (.int x2), none], [], σ) q := Er.sT (c2 := (134, [some (.ref x0), some (.int x1), some (.int x2), none], [.int x2], σ)) r54_133 rfl rfl <| Er.sT (c2 := (brn .eq x2 (0 : Int32) 144 137, [some (.ref x0), some (.int x1), some (.int x2), none], [], σ)) r54_134 rfl rfl <| (br_eq kt kf)
theorem b54_137 {d : Nat} {q : Rs} {x0 : Nat} {x1 : Int32} {x2 : Int32} {σ : St} (h1 : x0 < 24 ∧ kls x0 = 4)
    (k : Er (d + 1) 54 (148, [some (.ref x0), some (.int x1), some (.int x2), none], [.ref (fr x0 7)], σ) q) :
    Er (d + 1) 54 (137, [some (.ref x0), some (.int x1), some (.int x2), none], [], σ) q := Er.sT (c2 := (138, [some (.ref x0), some (.int x1), some (.int x2), none], [.ref x0], σ)) r54_137 rfl rfl <| Er.st (P := (x0 < 24 ∧ kls x0 = 4)) (c2 := (141, [some (.ref x0), some (.int x1), some (.int x2), none], [.ref (fr x0 7)], σ)) r54_138 rfl rfl h1 <| Er.sT (c2 := (148, [some (.ref x0), some (.int x1), some (.int x2), none], [.ref (fr x0 7)], σ)) r54_141 rfl rfl <| k
theorem b54_144 {d : Nat} {q : Rs} {x0 : Nat} {x1 : Int32} {x2 : Int32} {σ : St} (h1 : x0 < 24 ∧ kls x0 = 4)
    (k : Er (d + 1) 54 (148, [some (.ref x0), some (.int x1), some (.int x2), none], [.ref (fr x0 6)], σ) q) :
    Er (d + 1) 54 (144, [some (.ref x0), some (.int x1), some (.int x2), none], [], σ) q := Er.sT (c2 := (145, [some (.ref x0), some (.int x1), some (.int x2), none], [.ref x0], σ)) r54_144 rfl rfl <| Er.st (P := (x0 < 24 ∧ kls x0 = 4)) (c2 := (148, [some (.ref x0), some (.int x1), some (.int x2), none], [.ref (fr x0 6)], σ)) r54_145 rfl rfl h1 <| k
theorem b54_148 {d : Nat} {q : Rs} {x0 : Nat} {x1 : Int32} {x2 : Int32} {s0 : Nat} {σ : St} (h1 : x0 < 24 ∧ kls x0 = 4) (h2 : (fr x0 3) < 24 ∧ kls (fr x0 3) = 3)
    (kt : (0 : Int32) ≤ ((gfi σ (fr x0 3) 2) * x1) → Er (d + 1) 54 (175, [some (.ref x0), some (.int x1), some (.int x2), some (.ref s0)], [], σ) q)
    (kf : ¬ (0 : Int32) ≤ ((gfi σ (fr x0 3) 2) * x1) → Er (d + 1) 54 (161, [some (.ref x0), some (.int x1), some (.int x2), some (.ref s0)], [], σ) q) :
    Er (d + 1) 54 (148, [some (.ref x0), some (.int x1), some (.int x2), none], [.ref s0], σ) q := Er.sT (c2 := (149, [some (.ref x0), some (.int x1), some (.int x2), some (.ref s0)], [], σ)) r54_148 rfl rfl <| Er.sT (c2 := (150, [some (.ref x0), some (.int x1), some (.int x2), some (.ref s0)], [.ref x0], σ)) r54_149 rfl rfl <| Er.st (P := (x0 < 24 ∧ kls x0 = 4)) (c2 := (153, [some (.ref x0), some (.int x1), some (.int x2), some (.ref s0)], [.ref (fr x0 3)], σ)) r54_150 rfl rfl h1 <| Er.st (P := ((fr x0 3) < 24 ∧ kls (fr x0 3) = 3)) (c2 := (156, [some (.ref x0), some (.int x1), some (.int x2), some (.ref s0)], [.int (gfi σ (fr x0 3) 2)], σ)) r54_153 rfl rfl h2 <| Er.sT (c2 := (157, [some (.ref x0), some (.int x1), some (.int x2), some (.ref s0)], [.int x1, .int (gfi σ (fr x0 3) 2)], σ)) r54_156 rfl rfl <| Er.sT (c2 := (158, [some (.ref x0), some (.int x1), some (.int x2), some (.ref s0)], [.int ((gfi σ (fr x0 3) 2) * x1)], σ)) r54_157 rfl rfl <| Er.sT (c2 := (brn .ge ((gfi σ (fr x0 3) 2) * x1) (0 : Int32) 175 161, [some (.ref x0), some (.int x1), some (.int x2), some (.ref s0)], [], σ)) r54_158 rfl rfl <| (br_ge kt kf)
theorem b54_161 {d : Nat} {q : Rs} {x0 : Nat} {x1 : Int32} {x2 : Int32} {x3 : Nat} {σ : St} {σ2 : St}  (h1 : x0 < 24 ∧ kls x0 = 4) (h2 : (fr x0 5) < 24 ∧ kls (fr x0 5) = 3) (h3 : (fr (fr x0 5) 0) < 24 ∧ kls (fr (fr x0 5) 0) = 2)
    (hy : Er d 28 (0, ent 28 [.ref (fr (fr x0 5) 0), .ref x3], [], σ) (.inl none, σ2, 0))
    (k : Er (d + 1) 54 (172, [some (.ref x0), some (.int x1), some (.int x2), some (.ref x3)], [], σ2) q) :
    Er (d + 1) 54 (161, [some (.ref x0), some (.int x1), some (.int x2), some (.ref x3)], [], σ) q := Er.sT (c2 := (162, [some (.ref x0), some (.int x1), some (.int x2), some (.ref x3)], [.ref x0], σ)) r54_161 rfl rfl <| Er.st (P := (x0 < 24 ∧ kls x0 = 4)) (c2 := (165, [some (.ref x0), some (.int x1), some (.int x2), some (.ref x3)], [.ref (fr x0 5)], σ)) r54_162 rfl rfl h1 <| Er.st (P := ((fr x0 5) < 24 ∧ kls (fr x0 5) = 3)) (c2 := (168, [some (.ref x0), some (.int x1), some (.int x2), some (.ref x3)], [.ref (fr (fr x0 5) 0)], σ)) r54_165 rfl rfl h2 <| Er.sT (c2 := (169, [some (.ref x0), some (.int x1), some (.int x2), some (.ref x3)], [.ref x3, .ref (fr (fr x0 5) 0)], σ)) r54_168 rfl rfl <| (Er.call (vs := [.ref (fr (fr x0 5) 0), .ref x3]) (rest := []) r54_169 rfl rfl (Nat.le_of_ble_eq_true rfl) (Nat.le_of_ble_eq_true rfl) (fun _ => ⟨_, _, rfl, h3⟩) hy k)
theorem b54_172 {d : Nat} {q : Rs} {x0 : Nat} {x1 : Int32} {x2 : Int32} {x3 : Nat} {σ : St} 
    (k : Er (d + 1) 54 (186, [some (.ref x0), some (.int x1), some (.int x2), some (.ref x3)], [], σ) q) :
    Er (d + 1) 54 (172, [some (.ref x0), some (.int x1), some (.int x2), some (.ref x3)], [], σ) q := Er.sT (c2 := (186, [some (.ref x0), some (.int x1), some (.int x2), some (.ref x3)], [], σ)) r54_172 rfl rfl <| k
theorem b54_175 {d : Nat} {q : Rs} {x0 : Nat} {x1 : Int32} {x2 : Int32} {x3 : Nat} {σ : St} {σ2 : St}  (h1 : x0 < 24 ∧ kls x0 = 4) (h2 : (fr x0 5) < 24 ∧ kls (fr x0 5) = 3) (h3 : (fr (fr x0 5) 0) < 24 ∧ kls (fr (fr x0 5) 0) = 2)
    (hy : Er d 29 (0, ent 29 [.ref (fr (fr x0 5) 0), .ref x3], [], σ) (.inl none, σ2, 0))
    (k : Er (d + 1) 54 (186, [some (.ref x0), some (.int x1), some (.int x2), some (.ref x3)], [], σ2) q) :
    Er (d + 1) 54 (175, [some (.ref x0), some (.int x1), some (.int x2), some (.ref x3)], [], σ) q := Er.sT (c2 := (176, [some (.ref x0), some (.int x1), some (.int x2), some (.ref x3)], [.ref x0], σ)) r54_175 rfl rfl <| Er.st (P := (x0 < 24 ∧ kls x0 = 4)) (c2 := (179, [some (.ref x0), some (.int x1), some (.int x2), some (.ref x3)], [.ref (fr x0 5)], σ)) r54_176 rfl rfl h1 <| Er.st (P := ((fr x0 5) < 24 ∧ kls (fr x0 5) = 3)) (c2 := (182, [some (.ref x0), some (.int x1), some (.int x2), some (.ref x3)], [.ref (fr (fr x0 5) 0)], σ)) r54_179 rfl rfl h2 <| Er.sT (c2 := (183, [some (.ref x0), some (.int x1), some (.int x2), some (.ref x3)], [.ref x3, .ref (fr (fr x0 5) 0)], σ)) r54_182 rfl rfl <| (Er.call (vs := [.ref (fr (fr x0 5) 0), .ref x3]) (rest := []) r54_183 rfl rfl (Nat.le_of_ble_eq_true rfl) (Nat.le_of_ble_eq_true rfl) (fun _ => ⟨_, _, rfl, h3⟩) hy k)
theorem b54_186 {d : Nat} {x0 : Nat} {x1 : Int32} {x2 : Int32} {x3 : Nat} {σ : St}  :
    Er (d + 1) 54 (186, [some (.ref x0), some (.int x1), some (.int x2), some (.ref x3)], [], σ) (.inl none, σ, 0) := (Er.ret r54_186 rfl ⟨rfl, rfl, rfl⟩)
/-! NumberModels.multiply(LNumberModels$Natural;LNumberModels$Natural;)V -/
theorem tab_55 : tab 55 = tb55_0 := rfl
theorem ch55_0 {j : Nat} {r : Row} (h : tb55_0[j]? = some r) : rowAt 55 r.1 = some r := row_mem 55 (by decide) (by rw [tab_55]; exact List.mem_of_getElem? h)
theorem r55_0 : rowAt 55 0 = some (r0 0 1 (.aload_n 0)) := ch55_0 (j := 0) rfl
theorem r55_1 : rowAt 55 1 = some (ra 1 4 (.getfield 27) 5 4 195) := ch55_0 (j := 1) rfl
theorem r55_4 : rowAt 55 4 = some (r0 4 5 (.aload_n 0)) := ch55_0 (j := 2) rfl
theorem r55_5 : rowAt 55 5 = some (ra 5 8 (.getfield 20) 3 4 193) := ch55_0 (j := 3) rfl
theorem r55_8 : rowAt 55 8 = some (ra 8 11 (.getfield 62) 2 3 126) := ch55_0 (j := 4) rfl
theorem r55_11 : rowAt 55 11 = some (r0 11 12 (.aload_n 0)) := ch55_0 (j := 5) rfl
theorem r55_12 : rowAt 55 12 = some (ra 12 15 (.getfield 24) 4 4 194) := ch55_0 (j := 6) rfl
theorem r55_15 : rowAt 55 15 = some (ra 15 18 (.getfield 62) 2 3 126) := ch55_0 (j := 7) rfl
theorem r55_18 : rowAt 55 18 = some (r0 18 19 (.imul)) := ch55_0 (j := 8) rfl
theorem r55_19 : rowAt 55 19 = some (ra 19 22 (.putfield 62) 2 3 126) := ch55_0 (j := 9) rfl
theorem r55_22 : rowAt 55 22 = some (r0 22 23 (.aload_n 0)) := ch55_0 (j := 10) rfl
theorem r55_23 : rowAt 55 23 = some (ra 23 26 (.getfield 27) 5 4 195) := ch55_0 (j := 11) rfl
theorem r55_26 : rowAt 55 26 = some (ra 26 29 (.getfield 65) 0 3 122) := ch55_0 (j := 12) rfl
theorem r55_29 : rowAt 55 29 = some (r0 29 30 (.aload_n 0)) := ch55_0 (j := 13) rfl
theorem r55_30 : rowAt 55 30 = some (ra 30 33 (.getfield 20) 3 4 193) := ch55_0 (j := 14) rfl
theorem r55_33 : rowAt 55 33 = some (ra 33 36 (.getfield 65) 0 3 122) := ch55_0 (j := 15) rfl
theorem r55_36 : rowAt 55 36 = some (ra 36 37 (.aload_n 1) 1 0 0) := ch55_0 (j := 16) rfl
theorem r55_37 : rowAt 55 37 = some (ra 37 40 (.invokevirtual 290) 27 3 623) := ch55_0 (j := 17) rfl
theorem r55_40 : rowAt 55 40 = some (r0 40 41 (.aload_n 0)) := ch55_0 (j := 18) rfl
theorem r55_41 : rowAt 55 41 = some (ra 41 44 (.getfield 27) 5 4 195) := ch55_0 (j := 19) rfl
theorem r55_44 : rowAt 55 44 = some (ra 44 47 (.getfield 76) 1 3 124) := ch55_0 (j := 20) rfl
theorem r55_47 : rowAt 55 47 = some (r0 47 48 (.aload_n 0)) := ch55_0 (j := 21) rfl
theorem r55_48 : rowAt 55 48 = some (ra 48 51 (.getfield 20) 3 4 193) := ch55_0 (j := 22) rfl
theorem r55_51 : rowAt 55 51 = some (ra 51 54 (.getfield 76) 1 3 124) := ch55_0 (j := 23) rfl
theorem r55_54 : rowAt 55 54 = some (ra 54 55 (.aload_n 2) 2 0 0) := ch55_0 (j := 24) rfl
theorem r55_55 : rowAt 55 55 = some (ra 55 58 (.invokevirtual 290) 27 3 623) := ch55_0 (j := 25) rfl
theorem r55_58 : rowAt 55 58 = some (r0 58 59 (.return_)) := ch55_0 (j := 26) rfl
theorem b55_0 {d : Nat} {q : Rs} {x0 : Nat} {x1 : Nat} {x2 : Nat} {σ : St} {σ2 : St}  (h1 : x0 < 24 ∧ kls x0 = 4) (h2 : (fr x0 3) < 24 ∧ kls (fr x0 3) = 3) (h3 : (fr x0 4) < 24 ∧ kls (fr x0 4) = 3) (h4 : (fr x0 5) < 24 ∧ kls (fr x0 5) = 3 ∧ ft 3 2 = 0) (h5 : (fr x0 5) < 24 ∧ kls (fr x0 5) = 3) (h6 : (fr (fr x0 5) 0) < 24 ∧ kls (fr (fr x0 5) 0) = 2)
    (hy : Er d 27 (0, ent 27 [.ref (fr (fr x0 5) 0), .ref (fr (fr x0 3) 0), .ref x1], [], (sfi σ (fr x0 5) 2 ((gfi σ (fr x0 3) 2) * (gfi σ (fr x0 4) 2)))) (.inl none, σ2, 0))
    (k : Er (d + 1) 55 (40, [some (.ref x0), some (.ref x1), some (.ref x2)], [], σ2) q) :
    Er (d + 1) 55 (0, [some (.ref x0), some (.ref x1), some (.ref x2)], [], σ) q := Er.sT (c2 := (1, [some (.ref x0), some (.ref x1), some (.ref x2)], [.ref x0], σ)) r55_0 rfl rfl <| Er.st (P := (x0 < 24 ∧ kls x0 = 4)) (c2 := (4, [some (.ref x0), some (.ref x1), some (.ref x2)], [.ref (fr x0 5)], σ)) r55_1 rfl rfl h1 <| Er.sT (c2 := (5, [some (.ref x0), some (.ref x1), some (.ref x2)], [.ref x0, .ref (fr x0 5)], σ)) r55_4 rfl rfl <| Er.st (P := (x0 < 24 ∧ kls x0 = 4)) (c2 := (8, [some (.ref x0), some (.ref x1), some (.ref x2)], [.ref (fr x0 3), .ref (fr x0 5)], σ)) r55_5 rfl rfl h1 <| Er.st (P := ((fr x0 3) < 24 ∧ kls (fr x0 3) = 3)) (c2 := (11, [some (.ref x0), some (.ref x1), some (.ref x2)], [.int (gfi σ (fr x0 3) 2), .ref (fr x0 5)], σ)) r55_8 rfl rfl h2 <| Er.sT (c2 := (12, [some (.ref x0), some (.ref x1), some (.ref x2)], [.ref x0, .int (gfi σ (fr x0 3) 2), .ref (fr x0 5)], σ)) r55_11 rfl rfl <| Er.st (P := (x0 < 24 ∧ kls x0 = 4)) (c2 := (15, [some (.ref x0), some (.ref x1), some (.ref x2)], [.ref (fr x0 4), .int (gfi σ (fr x0 3) 2), .ref (fr x0 5)], σ)) r55_12 rfl rfl h1 <| Er.st (P := ((fr x0 4) < 24 ∧ kls (fr x0 4) = 3)) (c2 := (18, [some (.ref x0), some (.ref x1), some (.ref x2)], [.int (gfi σ (fr x0 4) 2), .int (gfi σ (fr x0 3) 2), .ref (fr x0 5)], σ)) r55_15 rfl rfl h3 <| Er.sT (c2 := (19, [some (.ref x0), some (.ref x1), some (.ref x2)], [.int ((gfi σ (fr x0 3) 2) * (gfi σ (fr x0 4) 2)), .ref (fr x0 5)], σ)) r55_18 rfl rfl <| Er.st (P := ((fr x0 5) < 24 ∧ kls (fr x0 5) = 3 ∧ ft 3 2 = 0)) (c2 := (22, [some (.ref x0), some (.ref x1), some (.ref x2)], [], (sfi σ (fr x0 5) 2 ((gfi σ (fr x0 3) 2) * (gfi σ (fr x0 4) 2))))) r55_19 rfl rfl h4 <| Er.sT (c2 := (23, [some (.ref x0), some (.ref x1), some (.ref x2)], [.ref x0], (sfi σ (fr x0 5) 2 ((gfi σ (fr x0 3) 2) * (gfi σ (fr x0 4) 2))))) r55_22 rfl rfl <| Er.st (P := (x0 < 24 ∧ kls x0 = 4)) (c2 := (26, [some (.ref x0), some (.ref x1), some (.ref x2)], [.ref (fr x0 5)], (sfi σ (fr x0 5) 2 ((gfi σ (fr x0 3) 2) * (gfi σ (fr x0 4) 2))))) r55_23 rfl rfl h1 <| Er.st (P := ((fr x0 5) < 24 ∧ kls (fr x0 5) = 3)) (c2 := (29, [some (.ref x0), some (.ref x1), some (.ref x2)], [.ref (fr (fr x0 5) 0)], (sfi σ (fr x0 5) 2 ((gfi σ (fr x0 3) 2) * (gfi σ (fr x0 4) 2))))) r55_26 rfl rfl h5 <| Er.sT (c2 := (30, [some (.ref x0), some (.ref x1), some (.ref x2)], [.ref x0, .ref (fr (fr x0 5) 0)], (sfi σ (fr x0 5) 2 ((gfi σ (fr x0 3) 2) * (gfi σ (fr x0 4) 2))))) r55_29 rfl rfl <| Er.st (P := (x0 < 24 ∧ kls x0 = 4)) (c2 := (33, [some (.ref x0), some (.ref x1), some (.ref x2)], [.ref (fr x0 3), .ref (fr (fr x0 5) 0)], (sfi σ (fr x0 5) 2 ((gfi σ (fr x0 3) 2) * (gfi σ (fr x0 4) 2))))) r55_30 rfl rfl h1 <| Er.st (P := ((fr x0 3) < 24 ∧ kls (fr x0 3) = 3)) (c2 := (36, [some (.ref x0), some (.ref x1), some (.ref x2)], [.ref (fr (fr x0 3) 0), .ref (fr (fr x0 5) 0)], (sfi σ (fr x0 5) 2 ((gfi σ (fr x0 3) 2) * (gfi σ (fr x0 4) 2))))) r55_33 rfl rfl h2 <| Er.sT (c2 := (37, [some (.ref x0), some (.ref x1), some (.ref x2)], [.ref x1, .ref (fr (fr x0 3) 0), .ref (fr (fr x0 5) 0)], (sfi σ (fr x0 5) 2 ((gfi σ (fr x0 3) 2) * (gfi σ (fr x0 4) 2))))) r55_36 rfl rfl <| (Er.call (vs := [.ref (fr (fr x0 5) 0), .ref (fr (fr x0 3) 0), .ref x1]) (rest := []) r55_37 rfl rfl (Nat.le_of_ble_eq_true rfl) (Nat.le_of_ble_eq_true rfl) (fun _ => ⟨_, _, rfl, h6⟩) hy k)
theorem b55_40 {d : Nat} {q : Rs} {x0 : Nat} {x1 : Nat} {x2 : Nat} {σ : St} {σ2 : St}  (h1 : x0 < 24 ∧ kls x0 = 4) (h2 : (fr x0 5) < 24 ∧ kls (fr x0 5) = 3) (h3 : (fr x0 3) < 24 ∧ kls (fr x0 3) = 3) (h4 : (fr (fr x0 5) 1) < 24 ∧ kls (fr (fr x0 5) 1) = 2)
    (hy : Er d 27 (0, ent 27 [.ref (fr (fr x0 5) 1), .ref (fr (fr x0 3) 1), .ref x2], [], σ) (.inl none, σ2, 0))
    (k : Er (d + 1) 55 (58, [some (.ref x0), some (.ref x1), some (.ref x2)], [], σ2) q) :
    Er (d + 1) 55 (40, [some (.ref x0), some (.ref x1), some (.ref x2)], [], σ) q := Er.sT (c2 := (41, [some (.ref x0), some (.ref x1), some (.ref x2)], [.ref x0], σ)) r55_40 rfl rfl <| Er.st (P := (x0 < 24 ∧ kls x0 = 4)) (c2 := (44, [some (.ref x0), some (.ref x1), some (.ref x2)], [.ref (fr x0 5)], σ)) r55_41 rfl rfl h1 <| Er.st (P := ((fr x0 5) < 24 ∧ kls (fr x0 5) = 3)) (c2 := (47, [some (.ref x0), some (.ref x1), some (.ref x2)], [.ref (fr (fr x0 5) 1)], σ)) r55_44 rfl rfl h2 <| Er.sT (c2 := (48, [some (.ref x0), some (.ref x1), some (.ref x2)], [.ref x0, .ref (fr (fr x0 5) 1)], σ)) r55_47 rfl rfl <| Er.st (P := (x0 < 24 ∧ kls x0 = 4)) (c2 := (51, [some (.ref x0), some (.ref x1), some (.ref x2)], [.ref (fr x0 3), .ref (fr (fr x0 5) 1)], σ)) r55_48 rfl rfl h1 <| Er.st (P := ((fr x0 3) < 24 ∧ kls (fr x0 3) = 3)) (c2 := (54, [some (.ref x0), some (.ref x1), some (.ref x2)], [.ref (fr (fr x0 3) 1), .ref (fr (fr x0 5) 1)], σ)) r55_51 rfl rfl h3 <| Er.sT (c2 := (55, [some (.ref x0), some (.ref x1), some (.ref x2)], [.ref x2, .ref (fr (fr x0 3) 1), .ref (fr (fr x0 5) 1)], σ)) r55_54 rfl rfl <| (Er.call (vs := [.ref (fr (fr x0 5) 1), .ref (fr (fr x0 3) 1), .ref x2]) (rest := []) r55_55 rfl rfl (Nat.le_of_ble_eq_true rfl) (Nat.le_of_ble_eq_true rfl) (fun _ => ⟨_, _, rfl, h4⟩) hy k)
theorem b55_58 {d : Nat} {x0 : Nat} {x1 : Nat} {x2 : Nat} {σ : St}  :
    Er (d + 1) 55 (58, [some (.ref x0), some (.ref x1), some (.ref x2)], [], σ) (.inl none, σ, 0) := (Er.ret r55_58 rfl ⟨rfl, rfl, rfl⟩)
/-! NumberModels.divide()V -/
theorem tab_56 : tab 56 = tb56_0 := rfl
theorem ch56_0 {j : Nat} {r : Row} (h : tb56_0[j]? = some r) : rowAt 56 r.1 = some r := row_mem 56 (by decide) (by rw [tab_56]; exact List.mem_of_getElem? h)
theorem r56_0 : rowAt 56 0 = some (r0 0 1 (.aload_n 0)) := ch56_0 (j := 0) rfl
theorem r56_1 : rowAt 56 1 = some (ra 1 4 (.getfield 33) 6 4 196) := ch56_0 (j := 1) rfl
theorem r56_4 : rowAt 56 4 = some (r0 4 5 (.aload_n 0)) := ch56_0 (j := 2) rfl
theorem r56_5 : rowAt 56 5 = some (ra 5 8 (.getfield 20) 3 4 193) := ch56_0 (j := 3) rfl
theorem r56_8 : rowAt 56 8 = some (ra 8 11 (.getfield 65) 0 3 122) := ch56_0 (j := 4) rfl
theorem r56_11 : rowAt 56 11 = some (r0 11 12 (.aload_n 0)) := ch56_0 (j := 5) rfl
theorem r56_12 : rowAt 56 12 = some (ra 12 15 (.getfield 24) 4 4 194) := ch56_0 (j := 6) rfl
theorem r56_15 : rowAt 56 15 = some (ra 15 18 (.getfield 76) 1 3 124) := ch56_0 (j := 7) rfl
theorem r56_18 : rowAt 56 18 = some (ra 18 21 (.invokevirtual 290) 27 3 623) := ch56_0 (j := 8) rfl
theorem r56_21 : rowAt 56 21 = some (r0 21 22 (.aload_n 0)) := ch56_0 (j := 9) rfl
theorem r56_22 : rowAt 56 22 = some (ra 22 25 (.getfield 37) 7 4 197) := ch56_0 (j := 10) rfl
theorem r56_25 : rowAt 56 25 = some (r0 25 26 (.aload_n 0)) := ch56_0 (j := 11) rfl
theorem r56_26 : rowAt 56 26 = some (ra 26 29 (.getfield 24) 4 4 194) := ch56_0 (j := 12) rfl
theorem r56_29 : rowAt 56 29 = some (ra 29 32 (.getfield 65) 0 3 122) := ch56_0 (j := 13) rfl
theorem r56_32 : rowAt 56 32 = some (r0 32 33 (.aload_n 0)) := ch56_0 (j := 14) rfl
theorem r56_33 : rowAt 56 33 = some (ra 33 36 (.getfield 20) 3 4 193) := ch56_0 (j := 15) rfl
theorem r56_36 : rowAt 56 36 = some (ra 36 39 (.getfield 76) 1 3 124) := ch56_0 (j := 16) rfl
theorem r56_39 : rowAt 56 39 = some (ra 39 42 (.invokevirtual 290) 27 3 623) := ch56_0 (j := 17) rfl
theorem r56_42 : rowAt 56 42 = some (r0 42 43 (.aload_n 0)) := ch56_0 (j := 18) rfl
theorem r56_43 : rowAt 56 43 = some (ra 43 46 (.getfield 43) 8 4 198) := ch56_0 (j := 19) rfl
theorem r56_46 : rowAt 56 46 = some (r0 46 47 (.aload_n 0)) := ch56_0 (j := 20) rfl
theorem r56_47 : rowAt 56 47 = some (ra 47 50 (.getfield 33) 6 4 196) := ch56_0 (j := 21) rfl
theorem r56_50 : rowAt 56 50 = some (r0 50 51 (.aload_n 0)) := ch56_0 (j := 22) rfl
theorem r56_51 : rowAt 56 51 = some (ra 51 54 (.getfield 37) 7 4 197) := ch56_0 (j := 23) rfl
theorem r56_54 : rowAt 56 54 = some (ra 54 57 (.invokevirtual 152) 6 3 485) := ch56_0 (j := 24) rfl
theorem r56_57 : rowAt 56 57 = some (r0 57 58 (.return_)) := ch56_0 (j := 25) rfl
theorem b56_0 {d : Nat} {q : Rs} {x0 : Nat} {σ : St} {σ2 : St}  (h1 : x0 < 24 ∧ kls x0 = 4) (h2 : (fr x0 3) < 24 ∧ kls (fr x0 3) = 3) (h3 : (fr x0 4) < 24 ∧ kls (fr x0 4) = 3) (h4 : (fr x0 6) < 24 ∧ kls (fr x0 6) = 2)
    (hy : Er d 27 (0, ent 27 [.ref (fr x0 6), .ref (fr (fr x0 3) 0), .ref (fr (fr x0 4) 1)], [], σ) (.inl none, σ2, 0))
    (k : Er (d + 1) 56 (21, [some (.ref x0)], [], σ2) q) :
    Er (d + 1) 56 (0, [some (.ref x0)], [], σ) q := Er.sT (c2 := (1, [some (.ref x0)], [.ref x0], σ)) r56_0 rfl rfl <| Er.st (P := (x0 < 24 ∧ kls x0 = 4)) (c2 := (4, [some (.ref x0)], [.ref (fr x0 6)], σ)) r56_1 rfl rfl h1 <| Er.sT (c2 := (5, [some (.ref x0)], [.ref x0, .ref (fr x0 6)], σ)) r56_4 rfl rfl <| Er.st (P := (x0 < 24 ∧ kls x0 = 4)) (c2 := (8, [some (.ref x0)], [.ref (fr x0 3), .ref (fr x0 6)], σ)) r56_5 rfl rfl h1 <| Er.st (P := ((fr x0 3) < 24 ∧ kls (fr x0 3) = 3)) (c2 := (11, [some (.ref x0)], [.ref (fr (fr x0 3) 0), .ref (fr x0 6)], σ)) r56_8 rfl rfl h2 <| Er.sT (c2 := (12, [some (.ref x0)], [.ref x0, .ref (fr (fr x0 3) 0), .ref (fr x0 6)], σ)) r56_11 rfl rfl <| Er.st (P := (x0 < 24 ∧ kls x0 = 4)) (c2 := (15, [some (.ref x0)], [.ref (fr x0 4), .ref (fr (fr x0 3) 0), .ref (fr x0 6)], σ)) r56_12 rfl rfl h1 <| Er.st (P := ((fr x0 4) < 24 ∧ kls (fr x0 4) = 3)) (c2 := (18, [some (.ref x0)], [.ref (fr (fr x0 4) 1), .ref (fr (fr x0 3) 0), .ref (fr x0 6)], σ)) r56_15 rfl rfl h3 <| (Er.call (vs := [.ref (fr x0 6), .ref (fr (fr x0 3) 0), .ref (fr (fr x0 4) 1)]) (rest := []) r56_18 rfl rfl (Nat.le_of_ble_eq_true rfl) (Nat.le_of_ble_eq_true rfl) (fun _ => ⟨_, _, rfl, h4⟩) hy k)
theorem b56_21 {d : Nat} {q : Rs} {x0 : Nat} {σ : St} {σ2 : St}  (h1 : x0 < 24 ∧ kls x0 = 4) (h2 : (fr x0 4) < 24 ∧ kls (fr x0 4) = 3) (h3 : (fr x0 3) < 24 ∧ kls (fr x0 3) = 3) (h4 : (fr x0 7) < 24 ∧ kls (fr x0 7) = 2)
    (hy : Er d 27 (0, ent 27 [.ref (fr x0 7), .ref (fr (fr x0 4) 0), .ref (fr (fr x0 3) 1)], [], σ) (.inl none, σ2, 0))
    (k : Er (d + 1) 56 (42, [some (.ref x0)], [], σ2) q) :
    Er (d + 1) 56 (21, [some (.ref x0)], [], σ) q := Er.sT (c2 := (22, [some (.ref x0)], [.ref x0], σ)) r56_21 rfl rfl <| Er.st (P := (x0 < 24 ∧ kls x0 = 4)) (c2 := (25, [some (.ref x0)], [.ref (fr x0 7)], σ)) r56_22 rfl rfl h1 <| Er.sT (c2 := (26, [some (.ref x0)], [.ref x0, .ref (fr x0 7)], σ)) r56_25 rfl rfl <| Er.st (P := (x0 < 24 ∧ kls x0 = 4)) (c2 := (29, [some (.ref x0)], [.ref (fr x0 4), .ref (fr x0 7)], σ)) r56_26 rfl rfl h1 <| Er.st (P := ((fr x0 4) < 24 ∧ kls (fr x0 4) = 3)) (c2 := (32, [some (.ref x0)], [.ref (fr (fr x0 4) 0), .ref (fr x0 7)], σ)) r56_29 rfl rfl h2 <| Er.sT (c2 := (33, [some (.ref x0)], [.ref x0, .ref (fr (fr x0 4) 0), .ref (fr x0 7)], σ)) r56_32 rfl rfl <| Er.st (P := (x0 < 24 ∧ kls x0 = 4)) (c2 := (36, [some (.ref x0)], [.ref (fr x0 3), .ref (fr (fr x0 4) 0), .ref (fr x0 7)], σ)) r56_33 rfl rfl h1 <| Er.st (P := ((fr x0 3) < 24 ∧ kls (fr x0 3) = 3)) (c2 := (39, [some (.ref x0)], [.ref (fr (fr x0 3) 1), .ref (fr (fr x0 4) 0), .ref (fr x0 7)], σ)) r56_36 rfl rfl h3 <| (Er.call (vs := [.ref (fr x0 7), .ref (fr (fr x0 4) 0), .ref (fr (fr x0 3) 1)]) (rest := []) r56_39 rfl rfl (Nat.le_of_ble_eq_true rfl) (Nat.le_of_ble_eq_true rfl) (fun _ => ⟨_, _, rfl, h4⟩) hy k)
theorem b56_42 {d : Nat} {q : Rs} {x0 : Nat} {σ : St} {σ2 : St}  (h1 : x0 < 24 ∧ kls x0 = 4) (h2 : (fr x0 8) < 24 ∧ kls (fr x0 8) = 1)
    (hy : Er d 6 (0, ent 6 [.ref (fr x0 8), .ref (fr x0 6), .ref (fr x0 7)], [], σ) (.inl none, σ2, 0))
    (k : Er (d + 1) 56 (57, [some (.ref x0)], [], σ2) q) :
    Er (d + 1) 56 (42, [some (.ref x0)], [], σ) q := Er.sT (c2 := (43, [some (.ref x0)], [.ref x0], σ)) r56_42 rfl rfl <| Er.st (P := (x0 < 24 ∧ kls x0 = 4)) (c2 := (46, [some (.ref x0)], [.ref (fr x0 8)], σ)) r56_43 rfl rfl h1 <| Er.sT (c2 := (47, [some (.ref x0)], [.ref x0, .ref (fr x0 8)], σ)) r56_46 rfl rfl <| Er.st (P := (x0 < 24 ∧ kls x0 = 4)) (c2 := (50, [some (.ref x0)], [.ref (fr x0 6), .ref (fr x0 8)], σ)) r56_47 rfl rfl h1 <| Er.sT (c2 := (51, [some (.ref x0)], [.ref x0, .ref (fr x0 6), .ref (fr x0 8)], σ)) r56_50 rfl rfl <| Er.st (P := (x0 < 24 ∧ kls x0 = 4)) (c2 := (54, [some (.ref x0)], [.ref (fr x0 7), .ref (fr x0 6), .ref (fr x0 8)], σ)) r56_51 rfl rfl h1 <| (Er.call (vs := [.ref (fr x0 8), .ref (fr x0 6), .ref (fr x0 7)]) (rest := []) r56_54 rfl rfl (Nat.le_of_ble_eq_true rfl) (Nat.le_of_ble_eq_true rfl) (fun _ => ⟨_, _, rfl, h2⟩) hy k)
theorem b56_57 {d : Nat} {x0 : Nat} {σ : St}  :
    Er (d + 1) 56 (57, [some (.ref x0)], [], σ) (.inl none, σ, 0) := (Er.ret r56_57 rfl ⟨rfl, rfl, rfl⟩)
/-! NumberModels.takeQuotient(Z)V -/
theorem tab_57 : tab 57 = tb57_0 := rfl
theorem ch57_0 {j : Nat} {r : Row} (h : tb57_0[j]? = some r) : rowAt 57 r.1 = some r := row_mem 57 (by decide) (by rw [tab_57]; exact List.mem_of_getElem? h)
theorem r57_0 : rowAt 57 0 = some (r0 0 1 (.aload_n 0)) := ch57_0 (j := 0) rfl
theorem r57_1 : rowAt 57 1 = some (ra 1 4 (.getfield 20) 3 4 193) := ch57_0 (j := 1) rfl
theorem r57_4 : rowAt 57 4 = some (ra 4 7 (.getfield 62) 2 3 126) := ch57_0 (j := 2) rfl
theorem r57_7 : rowAt 57 7 = some (r0 7 8 (.aload_n 0)) := ch57_0 (j := 3) rfl
theorem r57_8 : rowAt 57 8 = some (ra 8 11 (.getfield 24) 4 4 194) := ch57_0 (j := 4) rfl
theorem r57_11 : rowAt 57 11 = some (ra 11 14 (.getfield 62) 2 3 126) := ch57_0 (j := 5) rfl
theorem r57_14 : rowAt 57 14 = some (r0 14 15 (.imul)) := ch57_0 (j := 6) rfl
theorem r57_15 : rowAt 57 15 = some (ra 15 16 (.istore_n 2) 2 0 0) := ch57_0 (j := 7) rfl
theorem r57_16 : rowAt 57 16 = some (ra 16 17 (.iload_n 1) 1 0 0) := ch57_0 (j := 8) rfl
theorem r57_17 : rowAt 57 17 = some (ra 17 20 (.ifCond .eq 30) 47 0 0) := ch57_0 (j := 9) rfl
theorem r57_20 : rowAt 57 20 = some (ra 20 21 (.iload_n 2) 2 0 0) := ch57_0 (j := 10) rfl
theorem r57_21 : rowAt 57 21 = some (ra 21 24 (.ifCond .ge 26) 47 0 0) := ch57_0 (j := 11) rfl
theorem r57_24 : rowAt 57 24 = some (r0 24 25 (.aload_n 0)) := ch57_0 (j := 12) rfl
theorem r57_25 : rowAt 57 25 = some (ra 25 28 (.getfield 43) 8 4 198) := ch57_0 (j := 13) rfl
theorem r57_28 : rowAt 57 28 = some (ra 28 31 (.getfield 304) 1 1 148) := ch57_0 (j := 14) rfl
theorem r57_31 : rowAt 57 31 = some (ra 31 34 (.invokevirtual 108) 17 1 513) := ch57_0 (j := 15) rfl
theorem r57_34 : rowAt 57 34 = some (ra 34 37 (.ifCond .ne 13) 47 0 0) := ch57_0 (j := 16) rfl
theorem r57_37 : rowAt 57 37 = some (r0 37 38 (.aload_n 0)) := ch57_0 (j := 17) rfl
theorem r57_38 : rowAt 57 38 = some (ra 38 41 (.getfield 43) 8 4 198) := ch57_0 (j := 18) rfl
theorem r57_41 : rowAt 57 41 = some (ra 41 44 (.getfield 156) 0 1 145) := ch57_0 (j := 19) rfl
theorem r57_44 : rowAt 57 44 = some (ra 44 47 (.invokevirtual 306) 30 1 649) := ch57_0 (j := 20) rfl
theorem r57_47 : rowAt 57 47 = some (r0 47 48 (.aload_n 0)) := ch57_0 (j := 21) rfl
theorem r57_48 : rowAt 57 48 = some (ra 48 51 (.getfield 27) 5 4 195) := ch57_0 (j := 22) rfl
theorem r57_51 : rowAt 57 51 = some (ra 51 52 (.iload_n 2) 2 0 0) := ch57_0 (j := 23) rfl
theorem r57_52 : rowAt 57 52 = some (r0 52 53 (.aload_n 0)) := ch57_0 (j := 24) rfl
theorem r57_53 : rowAt 57 53 = some (ra 53 56 (.getfield 43) 8 4 198) := ch57_0 (j := 25) rfl
theorem r57_56 : rowAt 57 56 = some (ra 56 59 (.getfield 156) 0 1 145) := ch57_0 (j := 26) rfl
theorem r57_59 : rowAt 57 59 = some (ra 59 62 (.invokevirtual 280) 35 3 653) := ch57_0 (j := 27) rfl
theorem r57_62 : rowAt 57 62 = some (r0 62 63 (.return_)) := ch57_0 (j := 28) rfl
theorem b57_0 {d : Nat} {q : Rs} {x0 : Nat} {x1 : Int32} {σ : St} (h1 : x0 < 24 ∧ kls x0 = 4) (h2 : (fr x0 3) < 24 ∧ kls (fr x0 3) = 3) (h3 : (fr x0 4) < 24 ∧ kls (fr x0 4) = 3)
    (kt : x1 = (0 : Int32) → Er (d + 1) 57 (47, [some (.ref x0), some (.int x1), some (.int ((gfi σ (fr x0 3) 2) * (gfi σ (fr x0 4) 2)))], [], σ) q)
    (kf : ¬ x1 = (0 : Int32) → Er (d + 1) 57 (20, [some (.ref x0), some (.int x1), some (.int ((gfi σ (fr x0 3) 2) * (gfi σ (fr x0 4) 2)))], [], σ) q) :
    Er (d + 1) 57 (0, [some (.ref x0), some (.int x1), none], [], σ) q := Er.sT (c2 := (1, [some (.ref x0), some (.int x1), none], [.ref x0], σ)) r57_0 rfl rfl <| Er.st (P := (x0 < 24 ∧ kls x0 = 4)) (c2 := (4, [some (.ref x0), some (.int x1), none], [.ref (fr x0 3)], σ)) r57_1 rfl rfl h1 <| Er.st (P := ((fr x0 3) < 24 ∧ kls (fr x0 3) = 3)) (c2 := (7, [some (.ref x0), some (.int x1), none], [.int (gfi σ (fr x0 3) 2)], σ)) r57_4 rfl rfl h2 <| Er.sT (c2 := (8, [some (.ref x0), some (.int x1), none], [.ref x0, .int (gfi σ (fr x0 3) 2)], σ)) r57_7 rfl rfl <| Er.st (P := (x0 < 24 ∧ kls x0 = 4)) (c2 := (11, [some (.ref x0), some (.int x1), none], [.ref (fr x0 4), .int (gfi σ (fr x0 3) 2)], σ)) r57_8 rfl rfl h1 <| Er.st (P := ((fr x0 4) < 24 ∧ kls (fr x0 4) = 3)) (c2 := (14, [some (.ref x0), some (.int x1), none], [.int (gfi σ (fr x0 4) 2), .int (gfi σ (fr x0 3) 2)], σ)) r57_11 rfl rfl h3 <| Er.sT (c2 := (15, [some (.ref x0), some (.int x1), none], [.int ((gfi σ (fr x0 3) 2) * (gfi σ (fr x0 4) 2))], σ)) r57_14 rfl rfl <| Er.sT (c2 := (16, [some (.ref x0), some (.int x1), some (.int ((gfi σ (fr x0 3) 2) * (gfi σ (fr x0 4) 2)))], [], σ)) r57_15 rfl rfl <| Er.sT (c2 := (17, [some (.ref x0), some (.int x1), some (.int ((gfi σ (fr x0 3) 2) * (gfi σ (fr x0 4) 2)))], [.int x1], σ)) r57_16 rfl rfl <| Er.sT (c2 := (brn .eq x1 (0 : Int32) 47 20, [some (.ref x0), some (.int x1), some (.int ((gfi σ (fr x0 3) 2) * (gfi σ (fr x0 4) 2)))], [], σ)) r57_17 rfl rfl <| (br_eq kt kf)
theorem b57_20 {d : Nat} {q : Rs} {x0 : Nat} {x1 : Int32} {x2 : Int32} {σ : St} 
    (kt : (0 : Int32) ≤ x2 → Er (d + 1) 57 (47, [some (.ref x0), some (.int x1), some (.int x2)], [], σ) q)
    (kf : ¬ (0 : Int32) ≤ x2 → Er (d + 1) 57 (24, [some (.ref x0), some (.int x1), some (.int x2)], [], σ) q) :
    Er (d + 1) 57 (20, [some (.ref x0), some (.int x1), some (.int x2)], [], σ) q := Er.sT (c2 := (21, [some (.ref x0), some (.int x1), some (.int x2)], [.int x2], σ)) r57_20 rfl rfl <| Er.sT (c2 := (brn .ge x2 (0 : Int32) 47 24, [some (.ref x0), some (.int x1), some (.int x2)], [], σ)) r57_21 rfl rfl <| (br_ge kt kf)
theorem b57_24 {d : Nat} {q : Rs} {x0 : Nat} {x1 : Int32} {x2 : Int32} {σ : St} {σ2 : St} {r : Int32} (h1 : x0 < 24 ∧ kls x0 = 4) (h2 : (fr x0 8) < 24 ∧ kls (fr x0 8) = 1) (h3 : (fr (fr x0 8) 1) < 24 ∧ kls (fr (fr x0 8) 1) = 2)
    (hy : Er d 17 (0, ent 17 [.ref (fr (fr x0 8) 1)], [], σ) (.inl (some (.int r)), σ2, 0))
    (k : Er (d + 1) 57 (34, [some (.ref x0), some (.int x1), some (.int x2)], [.int r], σ2) q) :
    Er (d + 1) 57 (24, [some (.ref x0), some (.int x1), some (.int x2)], [], σ) q := Er.sT (c2 := (25, [some (.ref x0), some (.int x1), some (.int x2)], [.ref x0], σ)) r57_24 rfl rfl <| Er.st (P := (x0 < 24 ∧ kls x0 = 4)) (c2 := (28, [some (.ref x0), some (.int x1), some (.int x2)], [.ref (fr x0 8)], σ)) r57_25 rfl rfl h1 <| Er.st (P := ((fr x0 8) < 24 ∧ kls (fr x0 8) = 1)) (c2 := (31, [some (.ref x0), some (.int x1), some (.int x2)], [.ref (fr (fr x0 8) 1)], σ)) r57_28 rfl rfl h2 <| (Er.call (vs := [.ref (fr (fr x0 8) 1)]) (rest := []) r57_31 rfl rfl (Nat.le_of_ble_eq_true rfl) (Nat.le_of_ble_eq_true rfl) (fun _ => ⟨_, _, rfl, h3⟩) hy k)
theorem b57_34 {d : Nat} {q : Rs} {x0 : Nat} {x1 : Int32} {x2 : Int32} {s0 : Int32} {σ : St} 
    (kt : ¬ s0 = (0 : Int32) → Er (d + 1) 57 (47, [some (.ref x0), some (.int x1), some (.int x2)], [], σ) q)
    (kf : s0 = (0 : Int32) → Er (d + 1) 57 (37, [some (.ref x0), some (.int x1), some (.int x2)], [], σ) q) :
    Er (d + 1) 57 (34, [some (.ref x0), some (.int x1), some (.int x2)], [.int s0], σ) q := Er.sT (c2 := (brn .ne s0 (0 : Int32) 47 37, [some (.ref x0), some (.int x1), some (.int x2)], [], σ)) r57_34 rfl rfl <| (br_ne kt kf)
theorem b57_37 {d : Nat} {q : Rs} {x0 : Nat} {x1 : Int32} {x2 : Int32} {σ : St} {σ2 : St}  (h1 : x0 < 24 ∧ kls x0 = 4) (h2 : (fr x0 8) < 24 ∧ kls (fr x0 8) = 1) (h3 : (fr (fr x0 8) 0) < 24 ∧ kls (fr (fr x0 8) 0) = 2)
    (hy : Er d 30 (0, ent 30 [.ref (fr (fr x0 8) 0)], [], σ) (.inl none, σ2, 0))
    (k : Er (d + 1) 57 (47, [some (.ref x0), some (.int x1), some (.int x2)], [], σ2) q) :
    Er (d + 1) 57 (37, [some (.ref x0), some (.int x1), some (.int x2)], [], σ) q := Er.sT (c2 := (38, [some (.ref x0), some (.int x1), some (.int x2)], [.ref x0], σ)) r57_37 rfl rfl <| Er.st (P := (x0 < 24 ∧ kls x0 = 4)) (c2 := (41, [some (.ref x0), some (.int x1), some (.int x2)], [.ref (fr x0 8)], σ)) r57_38 rfl rfl h1 <| Er.st (P := ((fr x0 8) < 24 ∧ kls (fr x0 8) = 1)) (c2 := (44, [some (.ref x0), some (.int x1), some (.int x2)], [.ref (fr (fr x0 8) 0)], σ)) r57_41 rfl rfl h2 <| (Er.call (vs := [.ref (fr (fr x0 8) 0)]) (rest := []) r57_44 rfl rfl (Nat.le_of_ble_eq_true rfl) (Nat.le_of_ble_eq_true rfl) (fun _ => ⟨_, _, rfl, h3⟩) hy k)
theorem b57_47 {d : Nat} {q : Rs} {x0 : Nat} {x1 : Int32} {x2 : Int32} {σ : St} {σ2 : St}  (h1 : x0 < 24 ∧ kls x0 = 4) (h2 : (fr x0 8) < 24 ∧ kls (fr x0 8) = 1) (h3 : (fr x0 5) < 24 ∧ kls (fr x0 5) = 3)
    (hy : Er d 35 (0, ent 35 [.ref (fr x0 5), .int x2, .ref (fr (fr x0 8) 0)], [], σ) (.inl none, σ2, 0))
    (k : Er (d + 1) 57 (62, [some (.ref x0), some (.int x1), some (.int x2)], [], σ2) q) :
    Er (d + 1) 57 (47, [some (.ref x0), some (.int x1), some (.int x2)], [], σ) q := Er.sT (c2 := (48, [some (.ref x0), some (.int x1), some (.int x2)], [.ref x0], σ)) r57_47 rfl rfl <| Er.st (P := (x0 < 24 ∧ kls x0 = 4)) (c2 := (51, [some (.ref x0), some (.int x1), some (.int x2)], [.ref (fr x0 5)], σ)) r57_48 rfl rfl h1 <| Er.sT (c2 := (52, [some (.ref x0), some (.int x1), some (.int x2)], [.int x2, .ref (fr x0 5)], σ)) r57_51 rfl rfl <| Er.sT (c2 := (53, [some (.ref x0), some (.int x1), some (.int x2)], [.ref x0, .int x2, .ref (fr x0 5)], σ)) r57_52 rfl rfl <| Er.st (P := (x0 < 24 ∧ kls x0 = 4)) (c2 := (56, [some (.ref x0), some (.int x1), some (.int x2)], [.ref (fr x0 8), .int x2, .ref (fr x0 5)], σ)) r57_53 rfl rfl h1 <| Er.st (P := ((fr x0 8) < 24 ∧ kls (fr x0 8) = 1)) (c2 := (59, [some (.ref x0), some (.int x1), some (.int x2)], [.ref (fr (fr x0 8) 0), .int x2, .ref (fr x0 5)], σ)) r57_56 rfl rfl h2 <| (Er.call (vs := [.ref (fr x0 5), .int x2, .ref (fr (fr x0 8) 0)]) (rest := []) r57_59 rfl rfl (Nat.le_of_ble_eq_true rfl) (Nat.le_of_ble_eq_true rfl) (fun _ => ⟨_, _, rfl, h3⟩) hy k)
theorem b57_62 {d : Nat} {x0 : Nat} {x1 : Int32} {x2 : Int32} {σ : St}  :
    Er (d + 1) 57 (62, [some (.ref x0), some (.int x1), some (.int x2)], [], σ) (.inl none, σ, 0) := (Er.ret r57_62 rfl ⟨rfl, rfl, rfl⟩)
/-! NumberModels.takeRest(Z)V -/
theorem tab_58 : tab 58 = tb58_0 := rfl
theorem ch58_0 {j : Nat} {r : Row} (h : tb58_0[j]? = some r) : rowAt 58 r.1 = some r := row_mem 58 (by decide) (by rw [tab_58]; exact List.mem_of_getElem? h)
theorem r58_0 : rowAt 58 0 = some (r0 0 1 (.aload_n 0)) := ch58_0 (j := 0) rfl
theorem r58_1 : rowAt 58 1 = some (ra 1 4 (.getfield 27) 5 4 195) := ch58_0 (j := 1) rfl
theorem r58_4 : rowAt 58 4 = some (r0 4 5 (.aload_n 0)) := ch58_0 (j := 2) rfl
theorem r58_5 : rowAt 58 5 = some (ra 5 8 (.getfield 20) 3 4 193) := ch58_0 (j := 3) rfl
theorem r58_8 : rowAt 58 8 = some (ra 8 11 (.getfield 62) 2 3 126) := ch58_0 (j := 4) rfl
theorem r58_11 : rowAt 58 11 = some (ra 11 14 (.putfield 62) 2 3 126) := ch58_0 (j := 5) rfl
theorem r58_14 : rowAt 58 14 = some (r0 14 15 (.aload_n 0)) := ch58_0 (j := 6) rfl
theorem r58_15 : rowAt 58 15 = some (ra 15 18 (.getfield 27) 5 4 195) := ch58_0 (j := 7) rfl
theorem r58_18 : rowAt 58 18 = some (ra 18 21 (.getfield 65) 0 3 122) := ch58_0 (j := 8) rfl
theorem r58_21 : rowAt 58 21 = some (r0 21 22 (.aload_n 0)) := ch58_0 (j := 9) rfl
theorem r58_22 : rowAt 58 22 = some (ra 22 25 (.getfield 43) 8 4 198) := ch58_0 (j := 10) rfl
theorem r58_25 : rowAt 58 25 = some (ra 25 28 (.getfield 304) 1 1 148) := ch58_0 (j := 11) rfl
theorem r58_28 : rowAt 58 28 = some (ra 28 31 (.invokevirtual 297) 19 2 486) := ch58_0 (j := 12) rfl
theorem r58_31 : rowAt 58 31 = some (r0 31 32 (.aload_n 0)) := ch58_0 (j := 13) rfl
theorem r58_32 : rowAt 58 32 = some (ra 32 35 (.getfield 27) 5 4 195) := ch58_0 (j := 14) rfl
theorem r58_35 : rowAt 58 35 = some (ra 35 38 (.getfield 76) 1 3 124) := ch58_0 (j := 15) rfl
theorem r58_38 : rowAt 58 38 = some (r0 38 39 (.aload_n 0)) := ch58_0 (j := 16) rfl
theorem r58_39 : rowAt 58 39 = some (ra 39 42 (.getfield 20) 3 4 193) := ch58_0 (j := 17) rfl
theorem r58_42 : rowAt 58 42 = some (ra 42 45 (.getfield 76) 1 3 124) := ch58_0 (j := 18) rfl
theorem r58_45 : rowAt 58 45 = some (r0 45 46 (.aload_n 0)) := ch58_0 (j := 19) rfl
theorem r58_46 : rowAt 58 46 = some (ra 46 49 (.getfield 24) 4 4 194) := ch58_0 (j := 20) rfl
theorem r58_49 : rowAt 58 49 = some (ra 49 52 (.getfield 76) 1 3 124) := ch58_0 (j := 21) rfl
theorem r58_52 : rowAt 58 52 = some (ra 52 55 (.invokevirtual 290) 27 3 623) := ch58_0 (j := 22) rfl
theorem r58_55 : rowAt 58 55 = some (ra 55 56 (.iload_n 1) 1 0 0) := ch58_0 (j := 23) rfl
theorem r58_56 : rowAt 58 56 = some (ra 56 59 (.ifCond .eq 79) 135 0 0) := ch58_0 (j := 24) rfl
theorem r58_59 : rowAt 58 59 = some (r0 59 60 (.aload_n 0)) := ch58_0 (j := 25) rfl
theorem r58_60 : rowAt 58 60 = some (ra 60 63 (.getfield 20) 3 4 193) := ch58_0 (j := 26) rfl
theorem r58_63 : rowAt 58 63 = some (ra 63 66 (.getfield 62) 2 3 126) := ch58_0 (j := 27) rfl
theorem r58_66 : rowAt 58 66 = some (r0 66 67 (.aload_n 0)) := ch58_0 (j := 28) rfl
theorem r58_67 : rowAt 58 67 = some (ra 67 70 (.getfield 24) 4 4 194) := ch58_0 (j := 29) rfl
theorem r58_70 : rowAt 58 70 = some (ra 70 73 (.getfield 62) 2 3 126) := ch58_0 (j := 30) rfl
theorem r58_73 : rowAt 58 73 = some (r0 73 74 (.imul)) := ch58_0 (j := 31) rfl
theorem r58_74 : rowAt 58 74 = some (ra 74 77 (.ifCond .ge 61) 135 0 0) := ch58_0 (j := 32) rfl
theorem r58_77 : rowAt 58 77 = some (r0 77 78 (.aload_n 0)) := ch58_0 (j := 33) rfl
theorem r58_78 : rowAt 58 78 = some (ra 78 81 (.getfield 43) 8 4 198) := ch58_0 (j := 34) rfl
theorem r58_81 : rowAt 58 81 = some (ra 81 84 (.getfield 304) 1 1 148) := ch58_0 (j := 35) rfl
theorem r58_84 : rowAt 58 84 = some (ra 84 87 (.invokevirtual 108) 17 1 513) := ch58_0 (j := 36) rfl
theorem r58_87 : rowAt 58 87 = some (ra 87 90 (.ifCond .ne 48) 135 0 0) := ch58_0 (j := 37) rfl
theorem r58_90 : rowAt 58 90 = some (r0 90 91 (.aload_n 0)) := ch58_0 (j := 38) rfl
theorem r58_91 : rowAt 58 91 = some (ra 91 94 (.getfield 27) 5 4 195) := ch58_0 (j := 39) rfl
theorem r58_94 : rowAt 58 94 = some (r0 94 95 (.aload_n 0)) := ch58_0 (j := 40) rfl
theorem r58_95 : rowAt 58 95 = some (ra 95 98 (.getfield 24) 4 4 194) := ch58_0 (j := 41) rfl
theorem r58_98 : rowAt 58 98 = some (ra 98 101 (.getfield 62) 2 3 126) := ch58_0 (j := 42) rfl
theorem r58_101 : rowAt 58 101 = some (ra 101 104 (.putfield 62) 2 3 126) := ch58_0 (j := 43) rfl
theorem r58_104 : rowAt 58 104 = some (r0 104 105 (.aload_n 0)) := ch58_0 (j := 44) rfl
theorem r58_105 : rowAt 58 105 = some (ra 105 108 (.getfield 27) 5 4 195) := ch58_0 (j := 45) rfl
theorem r58_108 : rowAt 58 108 = some (ra 108 111 (.getfield 65) 0 3 122) := ch58_0 (j := 46) rfl
theorem r58_111 : rowAt 58 111 = some (r0 111 112 (.aload_n 0)) := ch58_0 (j := 47) rfl
theorem r58_112 : rowAt 58 112 = some (ra 112 115 (.getfield 37) 7 4 197) := ch58_0 (j := 48) rfl
theorem r58_115 : rowAt 58 115 = some (ra 115 118 (.invokevirtual 297) 19 2 486) := ch58_0 (j := 49) rfl
theorem r58_118 : rowAt 58 118 = some (r0 118 119 (.aload_n 0)) := ch58_0 (j := 50) rfl
theorem r58_119 : rowAt 58 119 = some (ra 119 122 (.getfield 27) 5 4 195) := ch58_0 (j := 51) rfl
theorem r58_122 : rowAt 58 122 = some (ra 122 125 (.getfield 65) 0 3 122) := ch58_0 (j := 52) rfl
theorem r58_125 : rowAt 58 125 = some (r0 125 126 (.aload_n 0)) := ch58_0 (j := 53) rfl
theorem r58_126 : rowAt 58 126 = some (ra 126 129 (.getfield 43) 8 4 198) := ch58_0 (j := 54) rfl
theorem r58_129 : rowAt 58 129 = some (ra 129 132 (.getfield 304) 1 1 148) := ch58_0 (j := 55) rfl
theorem r58_132 : rowAt 58 132 = some (ra 132 135 (.invokevirtual 299) 28 2 628) := ch58_0 (j := 56) rfl
theorem r58_135 : rowAt 58 135 = some (r0 135 136 (.return_)) := ch58_0 (j := 57) rfl
theorem b58_0 {d : Nat} {q : Rs} {x0 : Nat} {x1 : Int32} {σ : St} {σ2 : St}  (h1 : x0 < 24 ∧ kls x0 = 4) (h2 : (fr x0 3) < 24 ∧ kls (fr x0 3) = 3) (h3 : (fr x0 5) < 24 ∧ kls (fr x0 5) = 3 ∧ ft 3 2 = 0) (h4 : (fr x0 5) < 24 ∧ kls (fr x0 5) = 3) (h5 : (fr x0 8) < 24 ∧ kls (fr x0 8) = 1) (h6 : (fr (fr x0 5) 0) < 24 ∧ kls (fr (fr x0 5) 0) = 2)
    (hy : Er d 19 (0, ent 19 [.ref (fr (fr x0 5) 0), .ref (fr (fr x0 8) 1)], [], (sfi σ (fr x0 5) 2 (gfi σ (fr x0 3) 2))) (.inl none, σ2, 0))
    (k : Er (d + 1) 58 (31, [some (.ref x0), some (.int x1)], [], σ2) q) :
    Er (d + 1) 58 (0, [some (.ref x0), some (.int x1)], [], σ) q := Er.sT (c2 := (1, [some (.ref x0), some (.int x1)], [.ref x0], σ)) r58_0 rfl rfl <| Er.st (P := (x0 < 24 ∧ kls x0 = 4)) (c2 := (4, [some (.ref x0), some (.int x1)], [.ref (fr x0 5)], σ)) r58_1 rfl rfl h1 <| Er.sT (c2 := (5, [some (.ref x0), some (.int x1)], [.ref x0, .ref (fr x0 5)], σ)) r58_4 rfl rfl <| Er.st (P := (x0 < 24 ∧ kls x0 = 4)) (c2 := (8, [some (.ref x0), some (.int x1)], [.ref (fr x0 3), .ref (fr x0 5)], σ)) r58_5 rfl rfl h1 <| Er.st (P := ((fr x0 3) < 24 ∧ kls (fr x0 3) = 3)) (c2 := (11, [some (.ref x0), some (.int x1)], [.int (gfi σ (fr x0 3) 2), .ref (fr x0 5)], σ)) r58_8 rfl rfl h2 <| Er.st (P := ((fr x0 5) < 24 ∧ kls (fr x0 5) = 3 ∧ ft 3 2 = 0)) (c2 := (14, [some (.ref x0), some (.int x1)], [], (sfi σ (fr x0 5) 2 (gfi σ (fr x0 3) 2)))) r58_11 rfl rfl h3 <| Er.sT (c2 := (15, [some (.ref x0), some (.int x1)], [.ref x0], (sfi σ (fr x0 5) 2 (gfi σ (fr x0 3) 2)))) r58_14 rfl rfl <| Er.st (P := (x0 < 24 ∧ kls x0 = 4)) (c2 := (18, [some (.ref x0), some (.int x1)], [.ref (fr x0 5)], (sfi σ (fr x0 5) 2 (gfi σ (fr x0 3) 2)))) r58_15 rfl rfl h1 <| Er.st (P := ((fr x0 5) < 24 ∧ kls (fr x0 5) = 3)) (c2 := (21, [some (.ref x0), some (.int x1)], [.ref (fr (fr x0 5) 0)], (sfi σ (fr x0 5) 2 (gfi σ (fr x0 3) 2)))) r58_18 rfl rfl h4 <| Er.sT (c2 := (22, [some (.ref x0), some (.int x1)], [.ref x0, .ref (fr (fr x0 5) 0)], (sfi σ (fr x0 5) 2 (gfi σ (fr x0 3) 2)))) r58_21 rfl rfl <| Er.st (P := (x0 < 24 ∧ kls x0 = 4)) (c2 := (25, [some (.ref x0), some (.int x1)], [.ref (fr x0 8), .ref (fr (fr x0 5) 0)], (sfi σ (fr x0 5) 2 (gfi σ (fr x0 3) 2)))) r58_22 rfl rfl h1 <| Er.st (P := ((fr x0 8) < 24 ∧ kls (fr x0 8) = 1)) (c2 := (28, [some (.ref x0), some (.int x1)], [.ref (fr (fr x0 8) 1), .ref (fr (fr x0 5) 0)], (sfi σ (fr x0 5) 2 (gfi σ (fr x0 3) 2)))) r58_25 rfl rfl h5 <| (Er.call (vs := [.ref (fr (fr x0 5) 0), .ref (fr (fr x0 8) 1)]) (rest := []) r58_28 rfl rfl (Nat.le_of_ble_eq_true rfl) (Nat.le_of_ble_eq_true rfl) (fun _ => ⟨_, _, rfl, h6⟩) hy k)
theorem b58_31 {d : Nat} {q : Rs} {x0 : Nat} {x1 : Int32} {σ : St} {σ2 : St}  (h1 : x0 < 24 ∧ kls x0 = 4) (h2 : (fr x0 5) < 24 ∧ kls (fr x0 5) = 3) (h3 : (fr x0 3) < 24 ∧ kls (fr x0 3) = 3) (h4 : (fr x0 4) < 24 ∧ kls (fr x0 4) = 3) (h5 : (fr (fr x0 5) 1) < 24 ∧ kls (fr (fr x0 5) 1) = 2)
    (hy : Er d 27 (0, ent 27 [.ref (fr (fr x0 5) 1), .ref (fr (fr x0 3) 1), .ref (fr (fr x0 4) 1)], [], σ) (.inl none, σ2, 0))
    (k : Er (d + 1) 58 (55, [some (.ref x0), some (.int x1)], [], σ2) q) :
    Er (d + 1) 58 (31, [some (.ref x0), some (.int x1)], [], σ) q := Er.sT (c2 := (32, [some (.ref x0), some (.int x1)], [.ref x0], σ)) r58_31 rfl rfl <| Er.st (P := (x0 < 24 ∧ kls x0 = 4)) (c2 := (35, [some (.ref x0), some (.int x1)], [.ref (fr x0 5)], σ)) r58_32 rfl rfl h1 <| Er.st (P := ((fr x0 5) < 24 ∧ kls (fr x0 5) = 3)) (c2 := (38, [some (.ref x0), some (.int x1)], [.ref (fr (fr x0 5) 1)], σ)) r58_35 rfl rfl h2 <| Er.sT (c2 := (39, [some (.ref x0), some (.int x1)], [.ref x0, .ref (fr (fr x0 5) 1)], σ)) r58_38 rfl rfl <| Er.st (P := (x0 < 24 ∧ kls x0 = 4)) (c2 := (42, [some (.ref x0), some (.int x1)], [.ref (fr x0 3), .ref (fr (fr x0 5) 1)], σ)) r58_39 rfl rfl h1 <| Er.st (P := ((fr x0 3) < 24 ∧ kls (fr x0 3) = 3)) (c2 := (45, [some (.ref x0), some (.int x1)], [.ref (fr (fr x0 3) 1), .ref (fr (fr x0 5) 1)], σ)) r58_42 rfl rfl h3 <| Er.sT (c2 := (46, [some (.ref x0), some (.int x1)], [.ref x0, .ref (fr (fr x0 3) 1), .ref (fr (fr x0 5) 1)], σ)) r58_45 rfl rfl <| Er.st (P := (x0 < 24 ∧ kls x0 = 4)) (c2 := (49, [some (.ref x0), some (.int x1)], [.ref (fr x0 4), .ref (fr (fr x0 3) 1), .ref (fr (fr x0 5) 1)], σ)) r58_46 rfl rfl h1 <| Er.st (P := ((fr x0 4) < 24 ∧ kls (fr x0 4) = 3)) (c2 := (52, [some (.ref x0), some (.int x1)], [.ref (fr (fr x0 4) 1), .ref (fr (fr x0 3) 1), .ref (fr (fr x0 5) 1)], σ)) r58_49 rfl rfl h4 <| (Er.call (vs := [.ref (fr (fr x0 5) 1), .ref (fr (fr x0 3) 1), .ref (fr (fr x0 4) 1)]) (rest := []) r58_52 rfl rfl (Nat.le_of_ble_eq_true rfl) (Nat.le_of_ble_eq_true rfl) (fun _ => ⟨_, _, rfl, h5⟩) hy k)
theorem b58_55 {d : Nat} {q : Rs} {x0 : Nat} {x1 : Int32} {σ : St} 
    (kt : x1 = (0 : Int32) → Er (d + 1) 58 (135, [some (.ref x0), some (.int x1)], [], σ) q)
    (kf : ¬ x1 = (0 : Int32) → Er (d + 1) 58 (59, [some (.ref x0), some (.int x1)], [], σ) q) :
    Er (d + 1) 58 (55, [some (.ref x0), some (.int x1)], [], σ) q := Er.sT (c2 := (56, [some (.ref x0), some (.int x1)], [.int x1], σ)) r58_55 rfl rfl <| Er.sT (c2 := (brn .eq x1 (0 : Int32) 135 59, [some (.ref x0), some (.int x1)], [], σ)) r58_56 rfl rfl <| (br_eq kt kf)
theorem b58_59 {d : Nat} {q : Rs} {x0 : Nat} {x1 : Int32} {σ : St} (h1 : x0 < 24 ∧ kls x0 = 4) (h2 : (fr x0 3) < 24 ∧ kls (fr x0 3) = 3) (h3 : (fr x0 4) < 24 ∧ kls (fr x0 4) = 3)
    (kt : (0 : Int32) ≤ ((gfi σ (fr x0 3) 2) * (gfi σ (fr x0 4) 2)) → Er (d + 1) 58 (135, [some (.ref x0), some (.int x1)], [], σ) q)
    (kf : ¬ (0 : Int32) ≤ ((gfi σ (fr x0 3) 2) * (gfi σ (fr x0 4) 2)) → Er (d + 1) 58 (77, [some (.ref x0), some (.int x1)], [], σ) q) :
    Er (d + 1) 58 (59, [some (.ref x0), some (.int x1)], [], σ) q := Er.sT (c2 := (60, [some (.ref x0), some (.int x1)], [.ref x0], σ)) r58_59 rfl rfl <| Er.st (P := (x0 < 24 ∧ kls x0 = 4)) (c2 := (63, [some (.ref x0), some (.int x1)], [.ref (fr x0 3)], σ)) r58_60 rfl rfl h1 <| Er.st (P := ((fr x0 3) < 24 ∧ kls (fr x0 3) = 3)) (c2 := (66, [some (.ref x0), some (.int x1)], [.int (gfi σ (fr x0 3) 2)], σ)) r58_63 rfl rfl h2 <| Er.sT (c2 := (67, [some (.ref x0), some (.int x1)], [.ref x0, .int (gfi σ (fr x0 3) 2)], σ)) r58_66 rfl rfl <| Er.st (P := (x0 < 24 ∧ kls x0 = 4)) (c2 := (70, [some (.ref x0), some (.int x1)], [.ref (fr x0 4), .int (gfi σ (fr x0 3) 2)], σ)) r58_67 rfl rfl h1 <| Er.st (P := ((fr x0 4) < 24 ∧ kls (fr x0 4) = 3)) (c2 := (73, [some (.ref x0), some (.int x1)], [.int (gfi σ (fr x0 4) 2), .int (gfi σ (fr x0 3) 2)], σ)) r58_70 rfl rfl h3 <| Er.sT (c2 := (74, [some (.ref x0), some (.int x1)], [.int ((gfi σ (fr x0 3) 2) * (gfi σ (fr x0 4) 2))], σ)) r58_73 rfl rfl <| Er.sT (c2 := (brn .ge ((gfi σ (fr x0 3) 2) * (gfi σ (fr x0 4) 2)) (0 : Int32) 135 77, [some (.ref x0), some (.int x1)], [], σ)) r58_74 rfl rfl <| (br_ge kt kf)
theorem b58_77 {d : Nat} {q : Rs} {x0 : Nat} {x1 : Int32} {σ : St} {σ2 : St} {r : Int32} (h1 : x0 < 24 ∧ kls x0 = 4) (h2 : (fr x0 8) < 24 ∧ kls (fr x0 8) = 1) (h3 : (fr (fr x0 8) 1) < 24 ∧ kls (fr (fr x0 8) 1) = 2)
    (hy : Er d 17 (0, ent 17 [.ref (fr (fr x0 8) 1)], [], σ) (.inl (some (.int r)), σ2, 0))
    (k : Er (d + 1) 58 (87, [some (.ref x0), some (.int x1)], [.int r], σ2) q) :
    Er (d + 1) 58 (77, [some (.ref x0), some (.int x1)], [], σ) q := Er.sT (c2 := (78, [some (.ref x0), some (.int x1)], [.ref x0], σ)) r58_77 rfl rfl <| Er.st (P := (x0 < 24 ∧ kls x0 = 4)) (c2 := (81, [some (.ref x0), some (.int x1)], [.ref (fr x0 8)], σ)) r58_78 rfl rfl h1 <| Er.st (P := ((fr x0 8) < 24 ∧ kls (fr x0 8) = 1)) (c2 := (84, [some (.ref x0), some (.int x1)], [.ref (fr (fr x0 8) 1)], σ)) r58_81 rfl rfl h2 <| (Er.call (vs := [.ref (fr (fr x0 8) 1)]) (rest := []) r58_84 rfl rfl (Nat.le_of_ble_eq_true rfl) (Nat.le_of_ble_eq_true rfl) (fun _ => ⟨_, _, rfl, h3⟩) hy k)
theorem b58_87 {d : Nat} {q : Rs} {x0 : Nat} {x1 : Int32} {s0 : Int32} {σ : St} 
    (kt : ¬ s0 = (0 : Int32) → Er (d + 1) 58 (135, [some (.ref x0), some (.int x1)], [], σ) q)
    (kf : s0 = (0 : Int32) → Er (d + 1) 58 (90, [some (.ref x0), some (.int x1)], [], σ) q) :
    Er (d + 1) 58 (87, [some (.ref x0), some (.int x1)], [.int s0], σ) q := Er.sT (c2 := (brn .ne s0 (0 : Int32) 135 90, [some (.ref x0), some (.int x1)], [], σ)) r58_87 rfl rfl <| (br_ne kt kf)
theorem b58_90 {d : Nat} {q : Rs} {x0 : Nat} {x1 : Int32} {σ : St} {σ2 : St}  (h1 : x0 < 24 ∧ kls x0 = 4) (h2 : (fr x0 4) < 24 ∧ kls (fr x0 4) = 3) (h3 : (fr x0 5) < 24 ∧ kls (fr x0 5) = 3 ∧ ft 3 2 = 0) (h4 : (fr x0 5) < 24 ∧ kls (fr x0 5) = 3) (h5 : (fr (fr x0 5) 0) < 24 ∧ kls (fr (fr x0 5) 0) = 2)
    (hy : Er d 19 (0, ent 19 [.ref (fr (fr x0 5) 0), .ref (fr x0 7)], [], (sfi σ (fr x0 5) 2 (gfi σ (fr x0 4) 2))) (.inl none, σ2, 0))
    (k : Er (d + 1) 58 (118, [some (.ref x0), some (.int x1)], [], σ2) q) :
    Er (d + 1) 58 (90, [some (.ref x0), some (.int x1)], [], σ) q := Er.sT (c2 := (91, [some (.ref x0), some (.int x1)], [.ref x0], σ)) r58_90 rfl rfl <| Er.st (P := (x0 < 24 ∧ kls x0 = 4)) (c2 := (94, [some (.ref x0), some (.int x1)], [.ref (fr x0 5)], σ)) r58_91 rfl rfl h1 <| Er.sT (c2 := (95, [some (.ref x0), some (.int x1)], [.ref x0, .ref (fr x0 5)], σ)) r58_94 rfl rfl <| Er.st (P := (x0 < 24 ∧ kls x0 = 4)) (c2 := (98, [some (.ref x0), some (.int x1)], [.ref (fr x0 4), .ref (fr x0 5)], σ)) r58_95 rfl rfl h1 <| Er.st (P := ((fr x0 4) < 24 ∧ kls (fr x0 4) = 3)) (c2 := (101, [some (.ref x0), some (.int x1)], [.int (gfi σ (fr x0 4) 2), .ref (fr x0 5)], σ)) r58_98 rfl rfl h2 <| Er.st (P := ((fr x0 5) < 24 ∧ kls (fr x0 5) = 3 ∧ ft 3 2 = 0)) (c2 := (104, [some (.ref x0), some (.int x1)], [], (sfi σ (fr x0 5) 2 (gfi σ (fr x0 4) 2)))) r58_101 rfl rfl h3 <| Er.sT (c2 := (105, [some (.ref x0), some (.int x1)], [.ref x0], (sfi σ (fr x0 5) 2 (gfi σ (fr x0 4) 2)))) r58_104 rfl rfl <| Er.st (P := (x0 < 24 ∧ kls x0 = 4)) (c2 := (108, [some (.ref x0), some (.int x1)], [.ref (fr x0 5)], (sfi σ (fr x0 5) 2 (gfi σ (fr x0 4) 2)))) r58_105 rfl rfl h1 <| Er.st (P := ((fr x0 5) < 24 ∧ kls (fr x0 5) = 3)) (c2 := (111, [some (.ref x0), some (.int x1)], [.ref (fr (fr x0 5) 0)], (sfi σ (fr x0 5) 2 (gfi σ (fr x0 4) 2)))) r58_108 rfl rfl h4 <| Er.sT (c2 := (112, [some (.ref x0), some (.int x1)], [.ref x0, .ref (fr (fr x0 5) 0)], (sfi σ (fr x0 5) 2 (gfi σ (fr x0 4) 2)))) r58_111 rfl rfl <| Er.st (P := (x0 < 24 ∧ kls x0 = 4)) (c2 := (115, [some (.ref x0), some (.int x1)], [.ref (fr x0 7), .ref (fr (fr x0 5) 0)], (sfi σ (fr x0 5) 2 (gfi σ (fr x0 4) 2)))) r58_112 rfl rfl h1 <| (Er.call (vs := [.ref (fr (fr x0 5) 0), .ref (fr x0 7)]) (rest := []) r58_115 rfl rfl (Nat.le_of_ble_eq_true rfl) (Nat.le_of_ble_eq_true rfl) (fun _ => ⟨_, _, rfl, h5⟩) hy k)
theorem b58_118 {d : Nat} {q : Rs} {x0 : Nat} {x1 : Int32} {σ : St} {σ2 : St}  (h1 : x0 < 24 ∧ kls x0 = 4) (h2 : (fr x0 5) < 24 ∧ kls (fr x0 5) = 3) (h3 : (fr x0 8) < 24 ∧ kls (fr x0 8) = 1) (h4 : (fr (fr x0 5) 0) < 24 ∧ kls (fr (fr x0 5) 0) = 2)
    (hy : Er d 28 (0, ent 28 [.ref (fr (fr x0 5) 0), .ref (fr (fr x0 8) 1)], [], σ) (.inl none, σ2, 0))
    (k : Er (d + 1) 58 (135, [some (.ref x0), some (.int x1)], [], σ2) q) :
    Er (d + 1) 58 (118, [some (.ref x0), some (.int x1)], [], σ) q := Er.sT (c2 := (119, [some (.ref x0), some (.int x1)], [.ref x0], σ)) r58_118 rfl rfl <| Er.st (P := (x0 < 24 ∧ kls x0 = 4)) (c2 := (122, [some (.ref x0), some (.int x1)], [.ref (fr x0 5)], σ)) r58_119 rfl rfl h1 <| Er.st (P := ((fr x0 5) < 24 ∧ kls (fr x0 5) = 3)) (c2 := (125, [some (.ref x0), some (.int x1)], [.ref (fr (fr x0 5) 0)], σ)) r58_122 rfl rfl h2 <| Er.sT (c2 := (126, [some (.ref x0), some (.int x1)], [.ref x0, .ref (fr (fr x0 5) 0)], σ)) r58_125 rfl rfl <| Er.st (P := (x0 < 24 ∧ kls x0 = 4)) (c2 := (129, [some (.ref x0), some (.int x1)], [.ref (fr x0 8), .ref (fr (fr x0 5) 0)], σ)) r58_126 rfl rfl h1 <| Er.st (P := ((fr x0 8) < 24 ∧ kls (fr x0 8) = 1)) (c2 := (132, [some (.ref x0), some (.int x1)], [.ref (fr (fr x0 8) 1), .ref (fr (fr x0 5) 0)], σ)) r58_129 rfl rfl h3 <| (Er.call (vs := [.ref (fr (fr x0 5) 0), .ref (fr (fr x0 8) 1)]) (rest := []) r58_132 rfl rfl (Nat.le_of_ble_eq_true rfl) (Nat.le_of_ble_eq_true rfl) (fun _ => ⟨_, _, rfl, h4⟩) hy k)
theorem b58_135 {d : Nat} {x0 : Nat} {x1 : Int32} {σ : St}  :
    Er (d + 1) 58 (135, [some (.ref x0), some (.int x1)], [], σ) (.inl none, σ, 0) := (Er.ret r58_135 rfl ⟨rfl, rfl, rfl⟩)
/-! NumberModels.raise(I)V -/
theorem tab_59 : tab 59 = tb59_0 := rfl
theorem ch59_0 {j : Nat} {r : Row} (h : tb59_0[j]? = some r) : rowAt 59 r.1 = some r := row_mem 59 (by decide) (by rw [tab_59]; exact List.mem_of_getElem? h)
theorem r59_0 : rowAt 59 0 = some (r0 0 1 (.aload_n 0)) := ch59_0 (j := 0) rfl
theorem r59_1 : rowAt 59 1 = some (ra 1 4 (.getfield 27) 5 4 195) := ch59_0 (j := 1) rfl
theorem r59_4 : rowAt 59 4 = some (ra 4 5 (.iload_n 1) 1 0 0) := ch59_0 (j := 2) rfl
theorem r59_5 : rowAt 59 5 = some (5, 6, .iconst 1, 0, 0, 0, 1, 0) := ch59_0 (j := 3) rfl
theorem r59_6 : rowAt 59 6 = some (r0 6 7 (.iand)) := ch59_0 (j := 4) rfl
theorem r59_7 : rowAt 59 7 = some (ra 7 10 (.ifCond .ne 7) 14 0 0) := ch59_0 (j := 5) rfl
theorem r59_10 : rowAt 59 10 = some (10, 11, .iconst 1, 0, 0, 0, 1, 0) := ch59_0 (j := 6) rfl
theorem r59_11 : rowAt 59 11 = some (ra 11 14 (.goto 10) 21 0 0) := ch59_0 (j := 7) rfl
theorem r59_14 : rowAt 59 14 = some (r0 14 15 (.aload_n 0)) := ch59_0 (j := 8) rfl
theorem r59_15 : rowAt 59 15 = some (ra 15 18 (.getfield 20) 3 4 193) := ch59_0 (j := 9) rfl
theorem r59_18 : rowAt 59 18 = some (ra 18 21 (.getfield 62) 2 3 126) := ch59_0 (j := 10) rfl
theorem r59_21 : rowAt 59 21 = some (ra 21 24 (.putfield 62) 2 3 126) := ch59_0 (j := 11) rfl
theorem r59_24 : rowAt 59 24 = some (r0 24 25 (.aload_n 0)) := ch59_0 (j := 12) rfl
theorem r59_25 : rowAt 59 25 = some (ra 25 28 (.getfield 24) 4 4 194) := ch59_0 (j := 13) rfl
theorem r59_28 : rowAt 59 28 = some (ra 28 31 (.getfield 62) 2 3 126) := ch59_0 (j := 14) rfl
theorem r59_31 : rowAt 59 31 = some (ra 31 34 (.ifCond .ge 7) 38 0 0) := ch59_0 (j := 15) rfl
theorem r59_34 : rowAt 59 34 = some (34, 35, .iconst 1, 0, 0, 0, 1, 0) := ch59_0 (j := 16) rfl
theorem r59_35 : rowAt 59 35 = some (ra 35 38 (.goto 4) 39 0 0) := ch59_0 (j := 17) rfl
theorem r59_38 : rowAt 59 38 = some (r0 38 39 (.iconst 0)) := ch59_0 (j := 18) rfl
theorem r59_39 : rowAt 59 39 = some (ra 39 40 (.istore_n 2) 2 0 0) := ch59_0 (j := 19) rfl
theorem r59_40 : rowAt 59 40 = some (r0 40 41 (.aload_n 0)) := ch59_0 (j := 20) rfl
theorem r59_41 : rowAt 59 41 = some (r0 41 42 (.aload_n 0)) := ch59_0 (j := 21) rfl
theorem r59_42 : rowAt 59 42 = some (ra 42 45 (.getfield 27) 5 4 195) := ch59_0 (j := 22) rfl
theorem r59_45 : rowAt 59 45 = some (ra 45 48 (.getfield 65) 0 3 122) := ch59_0 (j := 23) rfl
theorem r59_48 : rowAt 59 48 = some (ra 48 49 (.iload_n 2) 2 0 0) := ch59_0 (j := 24) rfl
theorem r59_49 : rowAt 59 49 = some (ra 49 52 (.ifCond .eq 13) 62 0 0) := ch59_0 (j := 25) rfl
theorem r59_52 : rowAt 59 52 = some (r0 52 53 (.aload_n 0)) := ch59_0 (j := 26) rfl
theorem r59_53 : rowAt 59 53 = some (ra 53 56 (.getfield 20) 3 4 193) := ch59_0 (j := 27) rfl
theorem r59_56 : rowAt 59 56 = some (ra 56 59 (.getfield 76) 1 3 124) := ch59_0 (j := 28) rfl
theorem r59_59 : rowAt 59 59 = some (ra 59 62 (.goto 10) 69 0 0) := ch59_0 (j := 29) rfl
theorem r59_62 : rowAt 59 62 = some (r0 62 63 (.aload_n 0)) := ch59_0 (j := 30) rfl
theorem r59_63 : rowAt 59 63 = some (ra 63 66 (.getfield 20) 3 4 193) := ch59_0 (j := 31) rfl
theorem r59_66 : rowAt 59 66 = some (ra 66 69 (.getfield 65) 0 3 122) := ch59_0 (j := 32) rfl
theorem r59_69 : rowAt 59 69 = some (ra 69 70 (.iload_n 1) 1 0 0) := ch59_0 (j := 33) rfl
theorem r59_70 : rowAt 59 70 = some (ra 70 73 (.invokevirtual 309) 60 4 668) := ch59_0 (j := 34) rfl
theorem r59_73 : rowAt 59 73 = some (r0 73 74 (.aload_n 0)) := ch59_0 (j := 35) rfl
theorem r59_74 : rowAt 59 74 = some (r0 74 75 (.aload_n 0)) := ch59_0 (j := 36) rfl
theorem r59_75 : rowAt 59 75 = some (ra 75 78 (.getfield 27) 5 4 195) := ch59_0 (j := 37) rfl
theorem r59_78 : rowAt 59 78 = some (ra 78 81 (.getfield 76) 1 3 124) := ch59_0 (j := 38) rfl
theorem r59_81 : rowAt 59 81 = some (ra 81 82 (.iload_n 2) 2 0 0) := ch59_0 (j := 39) rfl
theorem r59_82 : rowAt 59 82 = some (ra 82 85 (.ifCond .eq 13) 95 0 0) := ch59_0 (j := 40) rfl
theorem r59_85 : rowAt 59 85 = some (r0 85 86 (.aload_n 0)) := ch59_0 (j := 41) rfl
theorem r59_86 : rowAt 59 86 = some (ra 86 89 (.getfield 20) 3 4 193) := ch59_0 (j := 42) rfl
theorem r59_89 : rowAt 59 89 = some (ra 89 92 (.getfield 65) 0 3 122) := ch59_0 (j := 43) rfl
theorem r59_92 : rowAt 59 92 = some (ra 92 95 (.goto 10) 102 0 0) := ch59_0 (j := 44) rfl
theorem r59_95 : rowAt 59 95 = some (r0 95 96 (.aload_n 0)) := ch59_0 (j := 45) rfl
theorem r59_96 : rowAt 59 96 = some (ra 96 99 (.getfield 20) 3 4 193) := ch59_0 (j := 46) rfl
theorem r59_99 : rowAt 59 99 = some (ra 99 102 (.getfield 76) 1 3 124) := ch59_0 (j := 47) rfl
theorem r59_102 : rowAt 59 102 = some (ra 102 103 (.iload_n 1) 1 0 0) := ch59_0 (j := 48) rfl
theorem r59_103 : rowAt 59 103 = some (ra 103 106 (.invokevirtual 309) 60 4 668) := ch59_0 (j := 49) rfl
theorem r59_106 : rowAt 59 106 = some (r0 106 107 (.aload_n 0)) := ch59_0 (j := 50) rfl
theorem r59_107 : rowAt 59 107 = some (ra 107 110 (.getfield 27) 5 4 195) := ch59_0 (j := 51) rfl
theorem r59_110 : rowAt 59 110 = some (ra 110 113 (.invokevirtual 313) 31 1 377) := ch59_0 (j := 52) rfl
theorem r59_113 : rowAt 59 113 = some (r0 113 114 (.return_)) := ch59_0 (j := 53) rfl
theorem b59_0 {d : Nat} {q : Rs} {x0 : Nat} {x1 : Int32} {σ : St} (h1 : x0 < 24 ∧ kls x0 = 4)
    (kt : ¬ (x1 &&& (1 : Int32)) = (0 : Int32) → Er (d + 1) 59 (14, [some (.ref x0), some (.int x1), none], [.ref (fr x0 5)], σ) q)
    (kf : (x1 &&& (1 : Int32)) = (0 : Int32) → Er (d + 1) 59 (10, [some (.ref x0), some (.int x1), none], [.ref (fr x0 5)], σ) q) :
    Er (d + 1) 59 (0, [some (.ref x0), some (.int x1), none], [], σ) q := Er.sT (c2 := (1, [some (.ref x0), some (.int x1), none], [.ref x0], σ)) r59_0 rfl rfl <| Er.st (P := (x0 < 24 ∧ kls x0 = 4)) (c2 := (4, [some (.ref x0), some (.int x1), none], [.ref (fr x0 5)], σ)) r59_1 rfl rfl h1 <| Er.sT (c2 := (5, [some (.ref x0), some (.int x1), none], [.int x1, .ref (fr x0 5)], σ)) r59_4 rfl rfl <| Er.sT (c2 := (6, [some (.ref x0), some (.int x1), none], [.int (1 : Int32), .int x1, .ref (fr x0 5)], σ)) r59_5 rfl rfl <| Er.sT (c2 := (7, [some (.ref x0), some (.int x1), none], [.int (x1 &&& (1 : Int32)), .ref (fr x0 5)], σ)) r59_6 rfl rfl <| Er.sT (c2 := (brn .ne (x1 &&& (1 : Int32)) (0 : Int32) 14 10, [some (.ref x0), some (.int x1), none], [.ref (fr x0 5)], σ)) r59_7 rfl rfl <| (br_ne kt kf)
theorem b59_10 {d : Nat} {q : Rs} {x0 : Nat} {x1 : Int32} {s0 : Nat} {σ : St} 
    (k : Er (d + 1) 59 (21, [some (.ref x0), some (.int x1), none], [.int (1 : Int32), .ref s0], σ) q) :
    Er (d + 1) 59 (10, [some (.ref x0), some (.int x1), none], [.ref s0], σ) q := Er.sT (c2 := (11, [some (.ref x0), some (.int x1), none], [.int (1 : Int32), .ref s0], σ)) r59_10 rfl rfl <| Er.sT (c2 := (21, [some (.ref x0), some (.int x1), none], [.int (1 : Int32), .ref s0], σ)) r59_11 rfl rfl <| k
theorem b59_14 {d : Nat} {q : Rs} {x0 : Nat} {x1 : Int32} {s0 : Nat} {σ : St} (h1 : x0 < 24 ∧ kls x0 = 4) (h2 : (fr x0 3) < 24 ∧ kls (fr x0 3) = 3)
    (k : Er (d + 1) 59 (21, [some (.ref x0), some (.int x1), none], [.int (gfi σ (fr x0 3) 2), .ref s0], σ) q) :
    Er (d + 1) 59 (14, [some (.ref x0), some (.int x1), none], [.ref s0], σ) q := Er.sT (c2 := (15, [some (.ref x0), some (.int x1), none], [.ref x0, .ref s0], σ)) r59_14 rfl rfl <| Er.st (P := (x0 < 24 ∧ kls x0 = 4)) (c2 := (18, [some (.ref x0), some (.int x1), none], [.ref (fr x0 3), .ref s0], σ)) r59_15 rfl rfl h1 <| Er.st (P := ((fr x0 3) < 24 ∧ kls (fr x0 3) = 3)) (c2 := (21, [some (.ref x0), some (.int x1), none], [.int (gfi σ (fr x0 3) 2), .ref s0], σ)) r59_18 rfl rfl h2 <| k
theorem b59_21 {d : Nat} {q : Rs} {x0 : Nat} {x1 : Int32} {s0 : Nat} {s1 : Int32} {σ : St} (h1 : s0 < 24 ∧ kls s0 = 3 ∧ ft 3 2 = 0) (h2 : x0 < 24 ∧ kls x0 = 4) (h3 : (fr x0 4) < 24 ∧ kls (fr x0 4) = 3)
    (kt : (0 : Int32) ≤ (gfi (sfi σ s0 2 s1) (fr x0 4) 2) → Er (d + 1) 59 (38, [some (.ref x0), some (.int x1), none], [], (sfi σ s0 2 s1)) q)
    (kf : ¬ (0 : Int32) ≤ (gfi (sfi σ s0 2 s1) (fr x0 4) 2) → Er (d + 1) 59 (34, [some (.ref x0), some (.int x1), none], [], (sfi σ s0 2 s1)) q) :
    Er (d + 1) 59 (21, [some (.ref x0), some (.int x1), none], [.int s1, .ref s0], σ) q := Er.st (P := (s0 < 24 ∧ kls s0 = 3 ∧ ft 3 2 = 0)) (c2 := (24, [some (.ref x0), some (.int x1), none], [], (sfi σ s0 2 s1))) r59_21 rfl rfl h1 <| Er.sT (c2 := (25, [some (.ref x0), some (.int x1), none], [.ref x0], (sfi σ s0 2 s1))) r59_24 rfl rfl <| Er.st (P := (x0 < 24 ∧ kls x0 = 4)) (c2 := (28, [some (.ref x0), some (.int x1), none], [.ref (fr x0 4)], (sfi σ s0 2 s1))) r59_25 rfl rfl h2 <| Er.st (P := ((fr x0 4) < 24 ∧ kls (fr x0 4) = 3)) (c2 := (31, [some (.ref x0), some (.int x1), none], [.int (gfi (sfi σ s0 2 s1) (fr x0 4) 2)], (sfi σ s0 2 s1))) r59_28 rfl rfl h3 <| Er.sT (c2 := (brn .ge (gfi (sfi σ s0 2 s1) (fr x0 4) 2) (0 : Int32) 38 34, [some (.ref x0), some (.int x1), none], [], (sfi σ s0 2 s1))) r59_31 rfl rfl <| (br_ge kt kf)
theorem b59_34 {d : Nat} {q : Rs} {x0 : Nat} {x1 : Int32} {σ : St} 
    (k : Er (d + 1) 59 (39, [some (.ref x0), some (.int x1), none], [.int (1 : Int32)], σ) q) :
    Er (d + 1) 59 (34, [some (.ref x0), some (.int x1), none], [], σ) q := Er.sT (c2 := (35, [some (.ref x0), some (.int x1), none], [.int (1 : Int32)], σ)) r59_34 rfl rfl <| Er.sT (c2 := (39, [some (.ref x0), some (.int x1), none], [.int (1 : Int32)], σ)) r59_35 rfl rfl <| k
theorem b59_38 {d : Nat} {q : Rs} {x0 : Nat} {x1 : Int32} {σ : St} 
    (k : Er (d + 1) 59 (39, [some (.ref x0), some (.int x1), none], [.int (0 : Int32)], σ) q) :
    Er (d + 1) 59 (38, [some (.ref x0), some (.int x1), none], [], σ) q := Er.sT (c2 := (39, [some (.ref x0), some (.int x1), none], [.int (0 : Int32)], σ)) r59_38 rfl rfl <| k
theorem b59_39 {d : Nat} {q : Rs} {x0 : Nat} {x1 : Int32} {s0 : Int32} {σ : St} (h1 : x0 < 24 ∧ kls x0 = 4) (h2 : (fr x0 5) < 24 ∧ kls (fr x0 5) = 3)
    (kt : s0 = (0 : Int32) → Er (d + 1) 59 (62, [some (.ref x0), some (.int x1), some (.int s0)], [.ref (fr (fr x0 5) 0), .ref x0], σ) q)
    (kf : ¬ s0 = (0 : Int32) → Er (d + 1) 59 (52, [some (.ref x0), some (.int x1), some (.int s0)], [.ref (fr (fr x0 5) 0), .ref x0], σ) q) :
    Er (d + 1) 59 (39, [some (.ref x0), some (.int x1), none], [.int s0], σ) q := Er.sT (c2 := (40, [some (.ref x0), some (.int x1), some (.int s0)], [], σ)) r59_39 rfl rfl <| Er.sT (c2 := (41, [some (.ref x0), some (.int x1), some (.int s0)], [.ref x0], σ)) r59_40 rfl rfl <| Er.sT (c2 := (42, [some (.ref x0), some (.int x1), some (.int s0)], [.ref x0, .ref x0], σ)) r59_41 rfl rfl <| Er.st (P := (x0 < 24 ∧ kls x0 = 4)) (c2 := (45, [some (.ref x0), some (.int x1), some (.int s0)], [.ref (fr x0 5), .ref x0], σ)) r59_42 rfl rfl h1 <| Er.st (P := ((fr x0 5) < 24 ∧ kls (fr x0 5) = 3)) (c2 := (48, [some (.ref x0), some (.int x1), some (.int s0)], [.ref (fr (fr x0 5) 0), .ref x0], σ)) r59_45 rfl rfl h2 <| Er.sT (c2 := (49, [some (.ref x0), some (.int x1), some (.int s0)], [.int s0, .ref (fr (fr x0 5) 0), .ref x0], σ)) r59_48 rfl rfl <| Er.sT (c2 := (brn .eq s0 (0 : Int32) 62 52, [some (.ref x0), some (.int x1), some (.int s0)], [.ref (fr (fr x0 5) 0), .ref x0], σ)) r59_49 rfl rfl <| (br_eq kt kf)
theorem b59_52 {d : Nat} {q : Rs} {x0 : Nat} {x1 : Int32} {x2 : Int32} {s0 : Nat} {s1 : Nat} {σ : St} (h1 : x0 < 24 ∧ kls x0 = 4) (h2 : (fr x0 3) < 24 ∧ kls (fr x0 3) = 3)
    (k : Er (d + 1) 59 (69, [some (.ref x0), some (.int x1), some (.int x2)], [.ref (fr (fr x0 3) 1), .ref s1, .ref s0], σ) q) :
    Er (d + 1) 59 (52, [some (.ref x0), some (.int x1), some (.int x2)], [.ref s1, .ref s0], σ) q := Er.sT (c2 := (53, [some (.ref x0), some (.int x1), some (.int x2)], [.ref x0, .ref s1, .ref s0], σ)) r59_52 rfl rfl <| Er.st (P := (x0 < 24 ∧ kls x0 = 4)) (c2 := (56, [some (.ref x0), some (.int x1), some (.int x2)], [.ref (fr x0 3), .ref s1, .ref s0], σ)) r59_53 rfl rfl h1 <| Er.st (P := ((fr x0 3) < 24 ∧ kls (fr x0 3) = 3)) (c2 := (59, [some (.ref x0), some (.int x1), some (.int x2)], [.ref (fr (fr x0 3) 1), .ref s1, .ref s0], σ)) r59_56 rfl rfl h2 <| Er.sT (c2 := (69, [some (.ref x0), some (.int x1), some (.int x2)], [.ref (fr (fr x0 3) 1), .ref s1, .ref s0], σ)) r59_59 rfl rfl <| k
theorem b59_62 {d : Nat} {q : Rs} {x0 : Nat} {x1 : Int32} {x2 : Int32} {s0 : Nat} {s1 : Nat} {σ : St} (h1 : x0 < 24 ∧ kls x0 = 4) (h2 : (fr x0 3) < 24 ∧ kls (fr x0 3) = 3)
    (k : Er (d + 1) 59 (69, [some (.ref x0), some (.int x1), some (.int x2)], [.ref (fr (fr x0 3) 0), .ref s1, .ref s0], σ) q) :
    Er (d + 1) 59 (62, [some (.ref x0), some (.int x1), some (.int x2)], [.ref s1, .ref s0], σ) q := Er.sT (c2 := (63, [some (.ref x0), some (.int x1), some (.int x2)], [.ref x0, .ref s1, .ref s0], σ)) r59_62 rfl rfl <| Er.st (P := (x0 < 24 ∧ kls x0 = 4)) (c2 := (66, [some (.ref x0), some (.int x1), some (.int x2)], [.ref (fr x0 3), .ref s1, .ref s0], σ)) r59_63 rfl rfl h1 <| Er.st (P := ((fr x0 3) < 24 ∧ kls (fr x0 3) = 3)) (c2 := (69, [some (.ref x0), some (.int x1), some (.int x2)], [.ref (fr (fr x0 3) 0), .ref s1, .ref s0], σ)) r59_66 rfl rfl h2 <| k
theorem b59_69 {d : Nat} {q : Rs} {x0 : Nat} {x1 : Int32} {x2 : Int32} {s0 : Nat} {s1 : Nat} {s2 : Nat} {σ : St} {σ2 : St}  (h1 : s0 < 24 ∧ kls s0 = 4)
    (hy : Er d 60 (0, ent 60 [.ref s0, .ref s1, .ref s2, .int x1], [], σ) (.inl none, σ2, 0))
    (k : Er (d + 1) 59 (73, [some (.ref x0), some (.int x1), some (.int x2)], [], σ2) q) :
    Er (d + 1) 59 (69, [some (.ref x0), some (.int x1), some (.int x2)], [.ref s2, .ref s1, .ref s0], σ) q := Er.sT (c2 := (70, [some (.ref x0), some (.int x1), some (.int x2)], [.int x1, .ref s2, .ref s1, .ref s0], σ)) r59_69 rfl rfl <| (Er.call (vs := [.ref s0, .ref s1, .ref s2, .int x1]) (rest := []) r59_70 rfl rfl (Nat.le_of_ble_eq_true rfl) (Nat.le_of_ble_eq_true rfl) (fun _ => ⟨_, _, rfl, h1⟩) hy k)
theorem b59_69x {d x c9 : Nat} {x0 : Nat} {x1 : Int32} {x2 : Int32} {s0 : Nat} {s1 : Nat} {s2 : Nat} {σ : St} {σ2 : St} (h1 : s0 < 24 ∧ kls s0 = 4) (hx : x < 4)
    (hy : Er d 60 (0, ent 60 [.ref s0, .ref s1, .ref s2, .int x1], [], σ) (.inr x, σ2, c9)) :
    Er (d + 1) 59 (69, [some (.ref x0), some (.int x1), some (.int x2)], [.ref s2, .ref s1, .ref s0], σ) (.inr x, σ2, c9) := Er.sT (c2 := (70, [some (.ref x0), some (.int x1), some (.int x2)], [.int x1, .ref s2, .ref s1, .ref s0], σ)) r59_69 rfl rfl <| (Er.callx (vs := [.ref s0, .ref s1, .ref s2, .int x1]) (rest := []) r59_70 rfl rfl (Nat.le_of_ble_eq_true rfl) (Nat.le_of_ble_eq_true rfl) (fun _ => ⟨_, _, rfl, h1⟩) hx rfl rfl hy)
theorem b59_73 {d : Nat} {q : Rs} {x0 : Nat} {x1 : Int32} {x2 : Int32} {σ : St} (h1 : x0 < 24 ∧ kls x0 = 4) (h2 : (fr x0 5) < 24 ∧ kls (fr x0 5) = 3)
    (kt : x2 = (0 : Int32) → Er (d + 1) 59 (95, [some (.ref x0), some (.int x1), some (.int x2)], [.ref (fr (fr x0 5) 1), .ref x0], σ) q)
    (kf : ¬ x2 = (0 : Int32) → Er (d + 1) 59 (85, [some (.ref x0), some (.int x1), some (.int x2)], [.ref (fr (fr x0 5) 1), .ref x0], σ) q) :
    Er (d + 1) 59 (73, [some (.ref x0), some (.int x1), some (.int x2)], [], σ) q := Er.sT (c2 := (74, [some (.ref x0), some (.int x1), some (.int x2)], [.ref x0], σ)) r59_73 rfl rfl <| Er.sT (c2 := (75, [some (.ref x0), some (.int x1), some (.int x2)], [.ref x0, .ref x0], σ)) r59_74 rfl rfl <| Er.st (P := (x0 < 24 ∧ kls x0 = 4)) (c2 := (78, [some (.ref x0), some (.int x1), some (.int x2)], [.ref (fr x0 5), .ref x0], σ)) r59_75 rfl rfl h1 <| Er.st (P := ((fr x0 5) < 24 ∧ kls (fr x0 5) = 3)) (c2 := (81, [some (.ref x0), some (.int x1), some (.int x2)], [.ref (fr (fr x0 5) 1), .ref x0], σ)) r59_78 rfl rfl h2 <| Er.sT (c2 := (82, [some (.ref x0), some (.int x1), some (.int x2)], [.int x2, .ref (fr (fr x0 5) 1), .ref x0], σ)) r59_81 rfl rfl <| Er.sT (c2 := (brn .eq x2 (0 : Int32) 95 85, [some (.ref x0), some (.int x1), some (.int x2)], [.ref (fr (fr x0 5) 1), .ref x0], σ)) r59_82 rfl rfl <| (br_eq kt kf)
theorem b59_85 {d : Nat} {q : Rs} {x0 : Nat} {x1 : Int32} {x2 : Int32} {s0 : Nat} {s1 : Nat} {σ : St} (h1 : x0 < 24 ∧ kls x0 = 4) (h2 : (fr x0 3) < 24 ∧ kls (fr x0 3) = 3)
    (k : Er (d + 1) 59 (102, [some (.ref x0), some (.int x1), some (.int x2)], [.ref (fr (fr x0 3) 0), .ref s1, .ref s0], σ) q) :
    Er (d + 1) 59 (85, [some (.ref x0), some (.int x1), some (.int x2)], [.ref s1, .ref s0], σ) q := Er.sT (c2 := (86, [some (.ref x0), some (.int x1), some (.int x2)], [.ref x0, .ref s1, .ref s0], σ)) r59_85 rfl rfl <| Er.st (P := (x0 < 24 ∧ kls x0 = 4)) (c2 := (89, [some (.ref x0), some (.int x1), some (.int x2)], [.ref (fr x0 3), .ref s1, .ref s0], σ)) r59_86 rfl rfl h1 <| Er.st (P := ((fr x0 3) < 24 ∧ kls (fr x0 3) = 3)) (c2 := (92, [some (.ref x0), some (.int x1), some (.int x2)], [.ref (fr (fr x0 3) 0), .ref s1, .ref s0], σ)) r59_89 rfl rfl h2 <| Er.sT (c2 := (102, [some (.ref x0), some (.int x1), some (.int x2)], [.ref (fr (fr x0 3) 0), .ref s1, .ref s0], σ)) r59_92 rfl rfl <| k
theorem b59_95 {d : Nat} {q : Rs} {x0 : Nat} {x1 : Int32} {x2 : Int32} {s0 : Nat} {s1 : Nat} {σ : St} (h1 : x0 < 24 ∧ kls x0 = 4) (h2 : (fr x0 3) < 24 ∧ kls (fr x0 3) = 3)
    (k : Er (d + 1) 59 (102, [some (.ref x0), some (.int x1), some (.int x2)], [.ref (fr (fr x0 3) 1), .ref s1, .ref s0], σ) q) :
    Er (d + 1) 59 (95, [some (.ref x0), some (.int x1), some (.int x2)], [.ref s1, .ref s0], σ) q := Er.sT (c2 := (96, [some (.ref x0), some (.int x1), some (.int x2)], [.ref x0, .ref s1, .ref s0], σ)) r59_95 rfl rfl <| Er.st (P := (x0 < 24 ∧ kls x0 = 4)) (c2 := (99, [some (.ref x0), some (.int x1), some (.int x2)], [.ref (fr x0 3), .ref s1, .ref s0], σ)) r59_96 rfl rfl h1 <| Er.st (P := ((fr x0 3) < 24 ∧ kls (fr x0 3) = 3)) (c2 := (102, [some (.ref x0), some (.int x1), some (.int x2)], [.ref (fr (fr x0 3) 1), .ref s1, .ref s0], σ)) r59_99 rfl rfl h2 <| k
theorem b59_102 {d : Nat} {q : Rs} {x0 : Nat} {x1 : Int32} {x2 : Int32} {s0 : Nat} {s1 : Nat} {s2 : Nat} {σ : St} {σ2 : St}  (h1 : s0 < 24 ∧ kls s0 = 4)
    (hy : Er d 60 (0, ent 60 [.ref s0, .ref s1, .ref s2, .int x1], [], σ) (.inl none, σ2, 0))
    (k : Er (d + 1) 59 (106, [some (.ref x0), some (.int x1), some (.int x2)], [], σ2) q) :
    Er (d + 1) 59 (102, [some (.ref x0), some (.int x1), some (.int x2)], [.ref s2, .ref s1, .ref s0], σ) q := Er.sT (c2 := (103, [some (.ref x0), some (.int x1), some (.int x2)], [.int x1, .ref s2, .ref s1, .ref s0], σ)) r59_102 rfl rfl <| (Er.call (vs := [.ref s0, .ref s1, .ref s2, .int x1]) (rest := []) r59_103 rfl rfl (Nat.le_of_ble_eq_true rfl) (Nat.le_of_ble_eq_true rfl) (fun _ => ⟨_, _, rfl, h1⟩) hy k)
theorem b59_102x {d x c9 : Nat} {x0 : Nat} {x1 : Int32} {x2 : Int32} {s0 : Nat} {s1 : Nat} {s2 : Nat} {σ : St} {σ2 : St} (h1 : s0 < 24 ∧ kls s0 = 4) (hx : x < 4)
    (hy : Er d 60 (0, ent 60 [.ref s0, .ref s1, .ref s2, .int x1], [], σ) (.inr x, σ2, c9)) :
    Er (d + 1) 59 (102, [some (.ref x0), some (.int x1), some (.int x2)], [.ref s2, .ref s1, .ref s0], σ) (.inr x, σ2, c9) := Er.sT (c2 := (103, [some (.ref x0), some (.int x1), some (.int x2)], [.int x1, .ref s2, .ref s1, .ref s0], σ)) r59_102 rfl rfl <| (Er.callx (vs := [.ref s0, .ref s1, .ref s2, .int x1]) (rest := []) r59_103 rfl rfl (Nat.le_of_ble_eq_true rfl) (Nat.le_of_ble_eq_true rfl) (fun _ => ⟨_, _, rfl, h1⟩) hx rfl rfl hy)
theorem b59_106 {d : Nat} {q : Rs} {x0 : Nat} {x1 : Int32} {x2 : Int32} {σ : St} {σ2 : St}  (h1 : x0 < 24 ∧ kls x0 = 4) (h2 : (fr x0 5) < 24 ∧ kls (fr x0 5) = 3)
    (hy : Er d 31 (0, ent 31 [.ref (fr x0 5)], [], σ) (.inl none, σ2, 0))
    (k : Er (d + 1) 59 (113, [some (.ref x0), some (.int x1), some (.int x2)], [], σ2) q) :
    Er (d + 1) 59 (106, [some (.ref x0), some (.int x1), some (.int x2)], [], σ) q := Er.sT (c2 := (107, [some (.ref x0), some (.int x1), some (.int x2)], [.ref x0], σ)) r59_106 rfl rfl <| Er.st (P := (x0 < 24 ∧ kls x0 = 4)) (c2 := (110, [some (.ref x0), some (.int x1), some (.int x2)], [.ref (fr x0 5)], σ)) r59_107 rfl rfl h1 <| (Er.call (vs := [.ref (fr x0 5)]) (rest := []) r59_110 rfl rfl (Nat.le_of_ble_eq_true rfl) (Nat.le_of_ble_eq_true rfl) (fun _ => ⟨_, _, rfl, h2⟩) hy k)
theorem b59_113 {d : Nat} {x0 : Nat} {x1 : Int32} {x2 : Int32} {σ : St}  :
    Er (d + 1) 59 (113, [some (.ref x0), some (.int x1), some (.int x2)], [], σ) (.inl none, σ, 0) := (Er.ret r59_113 rfl ⟨rfl, rfl, rfl⟩)
/-! NumberModels.raiseInto(LNumberModels$Natural;LNumberModels$Natural;I)V -/
theorem tab_60 : tab 60 = tb60_0 := rfl
theorem ch60_0 {j : Nat} {r : Row} (h : tb60_0[j]? = some r) : rowAt 60 r.1 = some r := row_mem 60 (by decide) (by rw [tab_60]; exact List.mem_of_getElem? h)
theorem r60_0 : rowAt 60 0 = some (ra 0 1 (.aload_n 1) 1 0 0) := ch60_0 (j := 0) rfl
theorem r60_1 : rowAt 60 1 = some (1, 2, .lconst 1, 0, 0, 0, 0, 1) := ch60_0 (j := 1) rfl
theorem r60_2 : rowAt 60 2 = some (ra 2 5 (.invokevirtual 72) 11 2 243) := ch60_0 (j := 2) rfl
theorem r60_5 : rowAt 60 5 = some (ra 5 6 (.iload_n 3) 3 0 0) := ch60_0 (j := 3) rfl
theorem r60_6 : rowAt 60 6 = some (r0 6 7 (.i2l)) := ch60_0 (j := 4) rfl
theorem r60_7 : rowAt 60 7 = some (ra 7 10 (.invokestatic 316) 44 1 672) := ch60_0 (j := 5) rfl
theorem r60_10 : rowAt 60 10 = some (10, 11, .iconst 1, 0, 0, 0, 1, 0) := ch60_0 (j := 6) rfl
theorem r60_11 : rowAt 60 11 = some (r0 11 12 (.isub)) := ch60_0 (j := 7) rfl
theorem r60_12 : rowAt 60 12 = some (ra 12 14 (.istore 4) 4 0 0) := ch60_0 (j := 8) rfl
theorem r60_14 : rowAt 60 14 = some (ra 14 16 (.iload 4) 4 0 0) := ch60_0 (j := 9) rfl
theorem r60_16 : rowAt 60 16 = some (ra 16 19 (.ifCond .lt 62) 78 0 0) := ch60_0 (j := 10) rfl
theorem r60_19 : rowAt 60 19 = some (r0 19 20 (.aload_n 0)) := ch60_0 (j := 11) rfl
theorem r60_20 : rowAt 60 20 = some (ra 20 23 (.getfield 33) 6 4 196) := ch60_0 (j := 12) rfl
theorem r60_23 : rowAt 60 23 = some (ra 23 24 (.aload_n 1) 1 0 0) := ch60_0 (j := 13) rfl
theorem r60_24 : rowAt 60 24 = some (ra 24 25 (.aload_n 1) 1 0 0) := ch60_0 (j := 14) rfl
theorem r60_25 : rowAt 60 25 = some (ra 25 28 (.invokevirtual 290) 27 3 623) := ch60_0 (j := 15) rfl
theorem r60_28 : rowAt 60 28 = some (ra 28 29 (.aload_n 1) 1 0 0) := ch60_0 (j := 16) rfl
theorem r60_29 : rowAt 60 29 = some (r0 29 30 (.aload_n 0)) := ch60_0 (j := 17) rfl
theorem r60_30 : rowAt 60 30 = some (ra 30 33 (.getfield 33) 6 4 196) := ch60_0 (j := 18) rfl
theorem r60_33 : rowAt 60 33 = some (ra 33 36 (.invokevirtual 297) 19 2 486) := ch60_0 (j := 19) rfl
theorem r60_36 : rowAt 60 36 = some (r0 36 37 (.aload_n 0)) := ch60_0 (j := 20) rfl
theorem r60_37 : rowAt 60 37 = some (ra 37 38 (.aload_n 1) 1 0 0) := ch60_0 (j := 21) rfl
theorem r60_38 : rowAt 60 38 = some (ra 38 41 (.invokevirtual 251) 43 2 329) := ch60_0 (j := 22) rfl
theorem r60_41 : rowAt 60 41 = some (ra 41 42 (.iload_n 3) 3 0 0) := ch60_0 (j := 23) rfl
theorem r60_42 : rowAt 60 42 = some (ra 42 44 (.iload 4) 4 0 0) := ch60_0 (j := 24) rfl
theorem r60_44 : rowAt 60 44 = some (r0 44 45 (.iushr)) := ch60_0 (j := 25) rfl
theorem r60_45 : rowAt 60 45 = some (45, 46, .iconst 1, 0, 0, 0, 1, 0) := ch60_0 (j := 26) rfl
theorem r60_46 : rowAt 60 46 = some (r0 46 47 (.iand)) := ch60_0 (j := 27) rfl
theorem r60_47 : rowAt 60 47 = some (ra 47 50 (.ifCond .eq 25) 72 0 0) := ch60_0 (j := 28) rfl
theorem r60_50 : rowAt 60 50 = some (r0 50 51 (.aload_n 0)) := ch60_0 (j := 29) rfl
theorem r60_51 : rowAt 60 51 = some (ra 51 54 (.getfield 33) 6 4 196) := ch60_0 (j := 30) rfl
theorem r60_54 : rowAt 60 54 = some (ra 54 55 (.aload_n 1) 1 0 0) := ch60_0 (j := 31) rfl
theorem r60_55 : rowAt 60 55 = some (ra 55 56 (.aload_n 2) 2 0 0) := ch60_0 (j := 32) rfl
theorem r60_56 : rowAt 60 56 = some (ra 56 59 (.invokevirtual 290) 27 3 623) := ch60_0 (j := 33) rfl
theorem r60_59 : rowAt 60 59 = some (ra 59 60 (.aload_n 1) 1 0 0) := ch60_0 (j := 34) rfl
theorem r60_60 : rowAt 60 60 = some (r0 60 61 (.aload_n 0)) := ch60_0 (j := 35) rfl
theorem r60_61 : rowAt 60 61 = some (ra 61 64 (.getfield 33) 6 4 196) := ch60_0 (j := 36) rfl
theorem r60_64 : rowAt 60 64 = some (ra 64 67 (.invokevirtual 297) 19 2 486) := ch60_0 (j := 37) rfl
theorem r60_67 : rowAt 60 67 = some (r0 67 68 (.aload_n 0)) := ch60_0 (j := 38) rfl
theorem r60_68 : rowAt 60 68 = some (ra 68 69 (.aload_n 1) 1 0 0) := ch60_0 (j := 39) rfl
theorem r60_69 : rowAt 60 69 = some (ra 69 72 (.invokevirtual 251) 43 2 329) := ch60_0 (j := 40) rfl
theorem r60_72 : rowAt 60 72 = some (72, 75, .iinc 4 (-1), 4, 0, 0, (-1), 0) := ch60_0 (j := 41) rfl
theorem r60_75 : rowAt 60 75 = some (ra 75 78 (.goto (-61)) 14 0 0) := ch60_0 (j := 42) rfl
theorem r60_78 : rowAt 60 78 = some (r0 78 79 (.return_)) := ch60_0 (j := 43) rfl
theorem b60_0 {d : Nat} {q : Rs} {x0 : Nat} {x1 : Nat} {x2 : Nat} {x3 : Int32} {σ : St} {σ2 : St}  (h1 : x1 < 24 ∧ kls x1 = 2)
    (hy : Er d 11 (0, ent 11 [.ref x1, .long (1 : Int64)], [], σ) (.inl none, σ2, 0))
    (k : Er (d + 1) 60 (5, [some (.ref x0), some (.ref x1), some (.ref x2), some (.int x3), none], [], σ2) q) :
    Er (d + 1) 60 (0, [some (.ref x0), some (.ref x1), some (.ref x2), some (.int x3), none], [], σ) q := Er.sT (c2 := (1, [some (.ref x0), some (.ref x1), some (.ref x2), some (.int x3), none], [.ref x1], σ)) r60_0 rfl rfl <| Er.sT (c2 := (2, [some (.ref x0), some (.ref x1), some (.ref x2), some (.int x3), none], [.long (1 : Int64), .ref x1], σ)) r60_1 rfl rfl <| (Er.call (vs := [.ref x1, .long (1 : Int64)]) (rest := []) r60_2 rfl rfl (Nat.le_of_ble_eq_true rfl) (Nat.le_of_ble_eq_true rfl) (fun _ => ⟨_, _, rfl, h1⟩) hy k)
theorem b60_5 {d : Nat} {q : Rs} {x0 : Nat} {x1 : Nat} {x2 : Nat} {x3 : Int32} {σ : St} {σ2 : St} {r : Int32} 
    (hy : Er d 44 (0, ent 44 [.long (x3.toInt64)], [], σ) (.inl (some (.int r)), σ2, 0))
    (k : Er (d + 1) 60 (10, [some (.ref x0), some (.ref x1), some (.ref x2), some (.int x3), none], [.int r], σ2) q) :
    Er (d + 1) 60 (5, [some (.ref x0), some (.ref x1), some (.ref x2), some (.int x3), none], [], σ) q := Er.sT (c2 := (6, [some (.ref x0), some (.ref x1), some (.ref x2), some (.int x3), none], [.int x3], σ)) r60_5 rfl rfl <| Er.sT (c2 := (7, [some (.ref x0), some (.ref x1), some (.ref x2), some (.int x3), none], [.long (x3.toInt64)], σ)) r60_6 rfl rfl <| (Er.call (vs := [.long (x3.toInt64)]) (rest := []) r60_7 rfl rfl (Nat.le_of_ble_eq_true rfl) (Nat.le_of_ble_eq_true rfl) (fun h => absurd h (by decide +kernel)) hy k)
theorem b60_10 {d : Nat} {q : Rs} {x0 : Nat} {x1 : Nat} {x2 : Nat} {x3 : Int32} {s0 : Int32} {σ : St} 
    (k : Er (d + 1) 60 (14, [some (.ref x0), some (.ref x1), some (.ref x2), some (.int x3), some (.int (s0 - (1 : Int32)))], [], σ) q) :
    Er (d + 1) 60 (10, [some (.ref x0), some (.ref x1), some (.ref x2), some (.int x3), none], [.int s0], σ) q := Er.sT (c2 := (11, [some (.ref x0), some (.ref x1), some (.ref x2), some (.int x3), none], [.int (1 : Int32), .int s0], σ)) r60_10 rfl rfl <| Er.sT (c2 := (12, [some (.ref x0), some (.ref x1), some (.ref x2), some (.int x3), none], [.int (s0 - (1 : Int32))], σ)) r60_11 rfl rfl <| Er.sT (c2 := (14, [some (.ref x0), some (.ref x1), some (.ref x2), some (.int x3), some (.int (s0 - (1 : Int32)))], [], σ)) r60_12 rfl rfl <| k
theorem b60_14 {d : Nat} {q : Rs} {x0 : Nat} {x1 : Nat} {x2 : Nat} {x3 : Int32} {x4 : Int32} {σ : St} 
    (kt : x4 < (0 : Int32) → Er (d + 1) 60 (78, [some (.ref x0), some (.ref x1), some (.ref x2), some (.int x3), some (.int x4)], [], σ) q)
    (kf : ¬ x4 < (0 : Int32) → Er (d + 1) 60 (19, [some (.ref x0), some (.ref x1), some (.ref x2), some (.int x3), some (.int x4)], [], σ) q) :
    Er (d + 1) 60 (14, [some (.ref x0), some (.ref x1), some (.ref x2), some (.int x3), some (.int x4)], [], σ) q := Er.sT (c2 := (16, [some (.ref x0), some (.ref x1), some (.ref x2), some (.int x3), some (.int x4)], [.int x4], σ)) r60_14 rfl rfl <| Er.sT (c2 := (brn .lt x4 (0 : Int32) 78 19, [some (.ref x0), some (.ref x1), some (.ref x2), some (.int x3), some (.int x4)], [], σ)) r60_16 rfl rfl <| (br_lt kt kf)
theorem b60_19 {d : Nat} {q : Rs} {x0 : Nat} {x1 : Nat} {x2 : Nat} {x3 : Int32} {x4 : Int32} {σ : St} {σ2 : St}  (h1 : x0 < 24 ∧ kls x0 = 4) (h2 : (fr x0 6) < 24 ∧ kls (fr x0 6) = 2)
    (hy : Er d 27 (0, ent 27 [.ref (fr x0 6), .ref x1, .ref x1], [], σ) (.inl none, σ2, 0))
    (k : Er (d + 1) 60 (28, [some (.ref x0), some (.ref x1), some (.ref x2), some (.int x3), some (.int x4)], [], σ2) q) :
    Er (d + 1) 60 (19, [some (.ref x0), some (.ref x1), some (.ref x2), some (.int x3), some (.int x4)], [], σ) q := Er.sT (c2 := (20, [some (.ref x0), some (.ref x1), some (.ref x2), some (.int x3), some (.int x4)], [.ref x0], σ)) r60_19 rfl rfl <| Er.st (P := (x0 < 24 ∧ kls x0 = 4)) (c2 := (23, [some (.ref x0), some (.ref x1), some (.ref x2), some (.int x3), some (.int x4)], [.ref (fr x0 6)], σ)) r60_20 rfl rfl h1 <| Er.sT (c2 := (24, [some (.ref x0), some (.ref x1), some (.ref x2), some (.int x3), some (.int x4)], [.ref x1, .ref (fr x0 6)], σ)) r60_23 rfl rfl <| Er.sT (c2 := (25, [some (.ref x0), some (.ref x1), some (.ref x2), some (.int x3), some (.int x4)], [.ref x1, .ref x1, .ref (fr x0 6)], σ)) r60_24 rfl rfl <| (Er.call (vs := [.ref (fr x0 6), .ref x1, .ref x1]) (rest := []) r60_25 rfl rfl (Nat.le_of_ble_eq_true rfl) (Nat.le_of_ble_eq_true rfl) (fun _ => ⟨_, _, rfl, h2⟩) hy k)
theorem b60_28 {d : Nat} {q : Rs} {x0 : Nat} {x1 : Nat} {x2 : Nat} {x3 : Int32} {x4 : Int32} {σ : St} {σ2 : St}  (h1 : x0 < 24 ∧ kls x0 = 4) (h2 : x1 < 24 ∧ kls x1 = 2)
    (hy : Er d 19 (0, ent 19 [.ref x1, .ref (fr x0 6)], [], σ) (.inl none, σ2, 0))
    (k : Er (d + 1) 60 (36, [some (.ref x0), some (.ref x1), some (.ref x2), some (.int x3), some (.int x4)], [], σ2) q) :
    Er (d + 1) 60 (28, [some (.ref x0), some (.ref x1), some (.ref x2), some (.int x3), some (.int x4)], [], σ) q := Er.sT (c2 := (29, [some (.ref x0), some (.ref x1), some (.ref x2), some (.int x3), some (.int x4)], [.ref x1], σ)) r60_28 rfl rfl <| Er.sT (c2 := (30, [some (.ref x0), some (.ref x1), some (.ref x2), some (.int x3), some (.int x4)], [.ref x0, .ref x1], σ)) r60_29 rfl rfl <| Er.st (P := (x0 < 24 ∧ kls x0 = 4)) (c2 := (33, [some (.ref x0), some (.ref x1), some (.ref x2), some (.int x3), some (.int x4)], [.ref (fr x0 6), .ref x1], σ)) r60_30 rfl rfl h1 <| (Er.call (vs := [.ref x1, .ref (fr x0 6)]) (rest := []) r60_33 rfl rfl (Nat.le_of_ble_eq_true rfl) (Nat.le_of_ble_eq_true rfl) (fun _ => ⟨_, _, rfl, h2⟩) hy k)
theorem b60_36 {d : Nat} {q : Rs} {x0 : Nat} {x1 : Nat} {x2 : Nat} {x3 : Int32} {x4 : Int32} {σ : St} {σ2 : St}  (h1 : x0 < 24 ∧ kls x0 = 4)
    (hy : Er d 43 (0, ent 43 [.ref x0, .ref x1], [], σ) (.inl none, σ2, 0))
    (k : Er (d + 1) 60 (41, [some (.ref x0), some (.ref x1), some (.ref x2), some (.int x3), some (.int x4)], [], σ2) q) :
    Er (d + 1) 60 (36, [some (.ref x0), some (.ref x1), some (.ref x2), some (.int x3), some (.int x4)], [], σ) q := Er.sT (c2 := (37, [some (.ref x0), some (.ref x1), some (.ref x2), some (.int x3), some (.int x4)], [.ref x0], σ)) r60_36 rfl rfl <| Er.sT (c2 := (38, [some (.ref x0), some (.ref x1), some (.ref x2), some (.int x3), some (.int x4)], [.ref x1, .ref x0], σ)) r60_37 rfl rfl <| (Er.call (vs := [.ref x0, .ref x1]) (rest := []) r60_38 rfl rfl (Nat.le_of_ble_eq_true rfl) (Nat.le_of_ble_eq_true rfl) (fun _ => ⟨_, _, rfl, h1⟩) hy k)
theorem b60_36x {d x c9 : Nat} {x0 : Nat} {x1 : Nat} {x2 : Nat} {x3 : Int32} {x4 : Int32} {σ : St} {σ2 : St} (h1 : x0 < 24 ∧ kls x0 = 4) (hx : x < 4)
    (hy : Er d 43 (0, ent 43 [.ref x0, .ref x1], [], σ) (.inr x, σ2, c9)) :
    Er (d + 1) 60 (36, [some (.ref x0), some (.ref x1), some (.ref x2), some (.int x3), some (.int x4)], [], σ) (.inr x, σ2, c9) := Er.sT (c2 := (37, [some (.ref x0), some (.ref x1), some (.ref x2), some (.int x3), some (.int x4)], [.ref x0], σ)) r60_36 rfl rfl <| Er.sT (c2 := (38, [some (.ref x0), some (.ref x1), some (.ref x2), some (.int x3), some (.int x4)], [.ref x1, .ref x0], σ)) r60_37 rfl rfl <| (Er.callx (vs := [.ref x0, .ref x1]) (rest := []) r60_38 rfl rfl (Nat.le_of_ble_eq_true rfl) (Nat.le_of_ble_eq_true rfl) (fun _ => ⟨_, _, rfl, h1⟩) hx rfl rfl hy)
theorem b60_41 {d : Nat} {q : Rs} {x0 : Nat} {x1 : Nat} {x2 : Nat} {x3 : Int32} {x4 : Int32} {σ : St} 
    (kt : (((x3.toUInt32 >>> (x4.toUInt32 &&& Int32.toUInt32 31)).toInt32) &&& (1 : Int32)) = (0 : Int32) → Er (d + 1) 60 (72, [some (.ref x0), some (.ref x1), some (.ref x2), some (.int x3), some (.int x4)], [], σ) q)
    (kf : ¬ (((x3.toUInt32 >>> (x4.toUInt32 &&& Int32.toUInt32 31)).toInt32) &&& (1 : Int32)) = (0 : Int32) → Er (d + 1) 60 (50, [some (.ref x0), some (.ref x1), some (.ref x2), some (.int x3), some (.int x4)], [], σ) q) :
    Er (d + 1) 60 (41, [some (.ref x0), some (.ref x1), some (.ref x2), some (.int x3), some (.int x4)], [], σ) q := Er.sT (c2 := (42, [some (.ref x0), some (.ref x1), some (.ref x2), some (.int x3), some (.int x4)], [.int x3], σ)) r60_41 rfl rfl <| Er.sT (c2 := (44, [some (.ref x0), some (.ref x1), some (.ref x2), some (.int x3), some (.int x4)], [.int x4, .int x3], σ)) r60_42 rfl rfl <| Er.sT (c2 := (45, [some (.ref x0), some (.ref x1), some (.ref x2), some (.int x3), some (.int x4)], [.int ((x3.toUInt32 >>> (x4.toUInt32 &&& Int32.toUInt32 31)).toInt32)], σ)) r60_44 rfl rfl <| Er.sT (c2 := (46, [some (.ref x0), some (.ref x1), some (.ref x2), some (.int x3), some (.int x4)], [.int (1 : Int32), .int ((x3.toUInt32 >>> (x4.toUInt32 &&& Int32.toUInt32 31)).toInt32)], σ)) r60_45 rfl rfl <| Er.sT (c2 := (47, [some (.ref x0), some (.ref x1), some (.ref x2), some (.int x3), some (.int x4)], [.int (((x3.toUInt32 >>> (x4.toUInt32 &&& Int32.toUInt32 31)).toInt32) &&& (1 : Int32))], σ)) r60_46 rfl rfl <| Er.sT (c2 := (brn .eq (((x3.toUInt32 >>> (x4.toUInt32 &&& Int32.toUInt32 31)).toInt32) &&& (1 : Int32)) (0 : Int32) 72 50, [some (.ref x0), some (.ref x1), some (.ref x2), some (.int x3), some (.int x4)], [], σ)) r60_47 rfl rfl <| (br_eq kt kf)
theorem b60_50 {d : Nat} {q : Rs} {x0 : Nat} {x1 : Nat} {x2 : Nat} {x3 : Int32} {x4 : Int32} {σ : St} {σ2 : St}  (h1 : x0 < 24 ∧ kls x0 = 4) (h2 : (fr x0 6) < 24 ∧ kls (fr x0 6) = 2)
    (hy : Er d 27 (0, ent 27 [.ref (fr x0 6), .ref x1, .ref x2], [], σ) (.inl none, σ2, 0))
    (k : Er (d + 1) 60 (59, [some (.ref x0), some (.ref x1), some (.ref x2), some (.int x3), some (.int x4)], [], σ2) q) :
    Er (d + 1) 60 (50, [some (.ref x0), some (.ref x1), some (.ref x2), some (.int x3), some (.int x4)], [], σ) q := Er.sT (c2 := (51, [some (.ref x0), some (.ref x1), some (.ref x2), some (.int x3), some (.int x4)], [.ref x0], σ)) r60_50 rfl rfl <| Er.st (P := (x0 < 24 ∧ kls x0 = 4)) (c2 := (54, [some (.ref x0), some (.ref x1), some (.ref x2), some (.int x3), some (.int x4)], [.ref (fr x0 6)], σ)) r60_51 rfl rfl h1 <| Er.sT (c2 := (55, [some (.ref x0), some (.ref x1), some (.ref x2), some (.int x3), some (.int x4)], [.ref x1, .ref (fr x0 6)], σ)) r60_54 rfl rfl <| Er.sT (c2 := (56, [some (.ref x0), some (.ref x1), some (.ref x2), some (.int x3), some (.int x4)], [.ref x2, .ref x1, .ref (fr x0 6)], σ)) r60_55 rfl rfl <| (Er.call (vs := [.ref (fr x0 6), .ref x1, .ref x2]) (rest := []) r60_56 rfl rfl (Nat.le_of_ble_eq_true rfl) (Nat.le_of_ble_eq_true rfl) (fun _ => ⟨_, _, rfl, h2⟩) hy k)
theorem b60_59 {d : Nat} {q : Rs} {x0 : Nat} {x1 : Nat} {x2 : Nat} {x3 : Int32} {x4 : Int32} {σ : St} {σ2 : St}  (h1 : x0 < 24 ∧ kls x0 = 4) (h2 : x1 < 24 ∧ kls x1 = 2)
    (hy : Er d 19 (0, ent 19 [.ref x1, .ref (fr x0 6)], [], σ) (.inl none, σ2, 0))
    (k : Er (d + 1) 60 (67, [some (.ref x0), some (.ref x1), some (.ref x2), some (.int x3), some (.int x4)], [], σ2) q) :
    Er (d + 1) 60 (59, [some (.ref x0), some (.ref x1), some (.ref x2), some (.int x3), some (.int x4)], [], σ) q := Er.sT (c2 := (60, [some (.ref x0), some (.ref x1), some (.ref x2), some (.int x3), some (.int x4)], [.ref x1], σ)) r60_59 rfl rfl <| Er.sT (c2 := (61, [some (.ref x0), some (.ref x1), some (.ref x2), some (.int x3), some (.int x4)], [.ref x0, .ref x1], σ)) r60_60 rfl rfl <| Er.st (P := (x0 < 24 ∧ kls x0 = 4)) (c2 := (64, [some (.ref x0), some (.ref x1), some (.ref x2), some (.int x3), some (.int x4)], [.ref (fr x0 6), .ref x1], σ)) r60_61 rfl rfl h1 <| (Er.call (vs := [.ref x1, .ref (fr x0 6)]) (rest := []) r60_64 rfl rfl (Nat.le_of_ble_eq_true rfl) (Nat.le_of_ble_eq_true rfl) (fun _ => ⟨_, _, rfl, h2⟩) hy k)
theorem b60_67 {d : Nat} {q : Rs} {x0 : Nat} {x1 : Nat} {x2 : Nat} {x3 : Int32} {x4 : Int32} {σ : St} {σ2 : St}  (h1 : x0 < 24 ∧ kls x0 = 4)
    (hy : Er d 43 (0, ent 43 [.ref x0, .ref x1], [], σ) (.inl none, σ2, 0))
    (k : Er (d + 1) 60 (72, [some (.ref x0), some (.ref x1), some (.ref x2), some (.int x3), some (.int x4)], [], σ2) q) :
    Er (d + 1) 60 (67, [some (.ref x0), some (.ref x1), some (.ref x2), some (.int x3), some (.int x4)], [], σ) q := Er.sT (c2 := (68, [some (.ref x0), some (.ref x1), some (.ref x2), some (.int x3), some (.int x4)], [.ref x0], σ)) r60_67 rfl rfl <| Er.sT (c2 := (69, [some (.ref x0), some (.ref x1), some (.ref x2), some (.int x3), some (.int x4)], [.ref x1, .ref x0], σ)) r60_68 rfl rfl <| (Er.call (vs := [.ref x0, .ref x1]) (rest := []) r60_69 rfl rfl (Nat.le_of_ble_eq_true rfl) (Nat.le_of_ble_eq_true rfl) (fun _ => ⟨_, _, rfl, h1⟩) hy k)
theorem b60_67x {d x c9 : Nat} {x0 : Nat} {x1 : Nat} {x2 : Nat} {x3 : Int32} {x4 : Int32} {σ : St} {σ2 : St} (h1 : x0 < 24 ∧ kls x0 = 4) (hx : x < 4)
    (hy : Er d 43 (0, ent 43 [.ref x0, .ref x1], [], σ) (.inr x, σ2, c9)) :
    Er (d + 1) 60 (67, [some (.ref x0), some (.ref x1), some (.ref x2), some (.int x3), some (.int x4)], [], σ) (.inr x, σ2, c9) := Er.sT (c2 := (68, [some (.ref x0), some (.ref x1), some (.ref x2), some (.int x3), some (.int x4)], [.ref x0], σ)) r60_67 rfl rfl <| Er.sT (c2 := (69, [some (.ref x0), some (.ref x1), some (.ref x2), some (.int x3), some (.int x4)], [.ref x1, .ref x0], σ)) r60_68 rfl rfl <| (Er.callx (vs := [.ref x0, .ref x1]) (rest := []) r60_69 rfl rfl (Nat.le_of_ble_eq_true rfl) (Nat.le_of_ble_eq_true rfl) (fun _ => ⟨_, _, rfl, h1⟩) hx rfl rfl hy)
theorem b60_72 {d : Nat} {q : Rs} {x0 : Nat} {x1 : Nat} {x2 : Nat} {x3 : Int32} {x4 : Int32} {σ : St} 
    (k : Er (d + 1) 60 (14, [some (.ref x0), some (.ref x1), some (.ref x2), some (.int x3), some (.int (x4 + (-1 : Int32)))], [], σ) q) :
    Er (d + 1) 60 (72, [some (.ref x0), some (.ref x1), some (.ref x2), some (.int x3), some (.int x4)], [], σ) q := Er.sT (c2 := (75, [some (.ref x0), some (.ref x1), some (.ref x2), some (.int x3), some (.int (x4 + (-1 : Int32)))], [], σ)) r60_72 rfl rfl <| Er.sT (c2 := (14, [some (.ref x0), some (.ref x1), some (.ref x2), some (.int x3), some (.int (x4 + (-1 : Int32)))], [], σ)) r60_75 rfl rfl <| k
theorem b60_78 {d : Nat} {x0 : Nat} {x1 : Nat} {x2 : Nat} {x3 : Int32} {x4 : Int32} {σ : St}  :
    Er (d + 1) 60 (78, [some (.ref x0), some (.ref x1), some (.ref x2), some (.int x3), some (.int x4)], [], σ) (.inl none, σ, 0) := (Er.ret r60_78 rfl ⟨rfl, rfl, rfl⟩)
/-! NumberModels.compareRead()I -/
theorem tab_61 : tab 61 = tb61_0 := rfl
theorem ch61_0 {j : Nat} {r : Row} (h : tb61_0[j]? = some r) : rowAt 61 r.1 = some r := row_mem 61 (by decide) (by rw [tab_61]; exact List.mem_of_getElem? h)
theorem r61_0 : rowAt 61 0 = some (r0 0 1 (.aload_n 0)) := ch61_0 (j := 0) rfl
theorem r61_1 : rowAt 61 1 = some (ra 1 4 (.getfield 20) 3 4 193) := ch61_0 (j := 1) rfl
theorem r61_4 : rowAt 61 4 = some (ra 4 7 (.getfield 62) 2 3 126) := ch61_0 (j := 2) rfl
theorem r61_7 : rowAt 61 7 = some (r0 7 8 (.aload_n 0)) := ch61_0 (j := 3) rfl
theorem r61_8 : rowAt 61 8 = some (ra 8 11 (.getfield 24) 4 4 194) := ch61_0 (j := 4) rfl
theorem r61_11 : rowAt 61 11 = some (ra 11 14 (.getfield 62) 2 3 126) := ch61_0 (j := 5) rfl
theorem r61_14 : rowAt 61 14 = some (ra 14 17 (.if_icmp .eq 23) 37 0 0) := ch61_0 (j := 6) rfl
theorem r61_17 : rowAt 61 17 = some (r0 17 18 (.aload_n 0)) := ch61_0 (j := 7) rfl
theorem r61_18 : rowAt 61 18 = some (ra 18 21 (.getfield 20) 3 4 193) := ch61_0 (j := 8) rfl
theorem r61_21 : rowAt 61 21 = some (ra 21 24 (.getfield 62) 2 3 126) := ch61_0 (j := 9) rfl
theorem r61_24 : rowAt 61 24 = some (r0 24 25 (.i2l)) := ch61_0 (j := 10) rfl
theorem r61_25 : rowAt 61 25 = some (r0 25 26 (.aload_n 0)) := ch61_0 (j := 11) rfl
theorem r61_26 : rowAt 61 26 = some (ra 26 29 (.getfield 24) 4 4 194) := ch61_0 (j := 12) rfl
theorem r61_29 : rowAt 61 29 = some (ra 29 32 (.getfield 62) 2 3 126) := ch61_0 (j := 13) rfl
theorem r61_32 : rowAt 61 32 = some (r0 32 33 (.i2l)) := ch61_0 (j := 14) rfl
theorem r61_33 : rowAt 61 33 = some (ra 33 36 (.invokestatic 58) 40 2 237) := ch61_0 (j := 15) rfl
theorem r61_36 : rowAt 61 36 = some (r0 36 37 (.ireturn)) := ch61_0 (j := 16) rfl
theorem r61_37 : rowAt 61 37 = some (r0 37 38 (.aload_n 0)) := ch61_0 (j := 17) rfl
theorem r61_38 : rowAt 61 38 = some (ra 38 41 (.getfield 33) 6 4 196) := ch61_0 (j := 18) rfl
theorem r61_41 : rowAt 61 41 = some (r0 41 42 (.aload_n 0)) := ch61_0 (j := 19) rfl
theorem r61_42 : rowAt 61 42 = some (ra 42 45 (.getfield 20) 3 4 193) := ch61_0 (j := 20) rfl
theorem r61_45 : rowAt 61 45 = some (ra 45 48 (.getfield 65) 0 3 122) := ch61_0 (j := 21) rfl
theorem r61_48 : rowAt 61 48 = some (r0 48 49 (.aload_n 0)) := ch61_0 (j := 22) rfl
theorem r61_49 : rowAt 61 49 = some (ra 49 52 (.getfield 24) 4 4 194) := ch61_0 (j := 23) rfl
theorem r61_52 : rowAt 61 52 = some (ra 52 55 (.getfield 76) 1 3 124) := ch61_0 (j := 24) rfl
theorem r61_55 : rowAt 61 55 = some (ra 55 58 (.invokevirtual 290) 27 3 623) := ch61_0 (j := 25) rfl
theorem r61_58 : rowAt 61 58 = some (r0 58 59 (.aload_n 0)) := ch61_0 (j := 26) rfl
theorem r61_59 : rowAt 61 59 = some (ra 59 62 (.getfield 37) 7 4 197) := ch61_0 (j := 27) rfl
theorem r61_62 : rowAt 61 62 = some (r0 62 63 (.aload_n 0)) := ch61_0 (j := 28) rfl
theorem r61_63 : rowAt 61 63 = some (ra 63 66 (.getfield 24) 4 4 194) := ch61_0 (j := 29) rfl
theorem r61_66 : rowAt 61 66 = some (ra 66 69 (.getfield 65) 0 3 122) := ch61_0 (j := 30) rfl
theorem r61_69 : rowAt 61 69 = some (r0 69 70 (.aload_n 0)) := ch61_0 (j := 31) rfl
theorem r61_70 : rowAt 61 70 = some (ra 70 73 (.getfield 20) 3 4 193) := ch61_0 (j := 32) rfl
theorem r61_73 : rowAt 61 73 = some (ra 73 76 (.getfield 76) 1 3 124) := ch61_0 (j := 33) rfl
theorem r61_76 : rowAt 61 76 = some (ra 76 79 (.invokevirtual 290) 27 3 623) := ch61_0 (j := 34) rfl
theorem r61_79 : rowAt 61 79 = some (r0 79 80 (.aload_n 0)) := ch61_0 (j := 35) rfl
theorem r61_80 : rowAt 61 80 = some (ra 80 83 (.getfield 20) 3 4 193) := ch61_0 (j := 36) rfl
theorem r61_83 : rowAt 61 83 = some (ra 83 86 (.getfield 62) 2 3 126) := ch61_0 (j := 37) rfl
theorem r61_86 : rowAt 61 86 = some (r0 86 87 (.aload_n 0)) := ch61_0 (j := 38) rfl
theorem r61_87 : rowAt 61 87 = some (ra 87 90 (.getfield 33) 6 4 196) := ch61_0 (j := 39) rfl
theorem r61_90 : rowAt 61 90 = some (r0 90 91 (.aload_n 0)) := ch61_0 (j := 40) rfl
theorem r61_91 : rowAt 61 91 = some (ra 91 94 (.getfield 37) 7 4 197) := ch61_0 (j := 41) rfl
theorem r61_94 : rowAt 61 94 = some (ra 94 97 (.invokevirtual 293) 20 2 627) := ch61_0 (j := 42) rfl
theorem r61_97 : rowAt 61 97 = some (r0 97 98 (.imul)) := ch61_0 (j := 43) rfl
theorem r61_98 : rowAt 61 98 = some (r0 98 99 (.ireturn)) := ch61_0 (j := 44) rfl
theorem b61_0 {d : Nat} {q : Rs} {x0 : Nat} {σ : St} (h1 : x0 < 24 ∧ kls x0 = 4) (h2 : (fr x0 3) < 24 ∧ kls (fr x0 3) = 3) (h3 : (fr x0 4) < 24 ∧ kls (fr x0 4) = 3)
    (kt : (gfi σ (fr x0 3) 2) = (gfi σ (fr x0 4) 2) → Er (d + 1) 61 (37, [some (.ref x0)], [], σ) q)
    (kf : ¬ (gfi σ (fr x0 3) 2) = (gfi σ (fr x0 4) 2) → Er (d + 1) 61 (17, [some (.ref x0)], [], σ) q) :
    Er (d + 1) 61 (0, [some (.ref x0)], [], σ) q := Er.sT (c2 := (1, [some (.ref x0)], [.ref x0], σ)) r61_0 rfl rfl <| Er.st (P := (x0 < 24 ∧ kls x0 = 4)) (c2 := (4, [some (.ref x0)], [.ref (fr x0 3)], σ)) r61_1 rfl rfl h1 <| Er.st (P := ((fr x0 3) < 24 ∧ kls (fr x0 3) = 3)) (c2 := (7, [some (.ref x0)], [.int (gfi σ (fr x0 3) 2)], σ)) r61_4 rfl rfl h2 <| Er.sT (c2 := (8, [some (.ref x0)], [.ref x0, .int (gfi σ (fr x0 3) 2)], σ)) r61_7 rfl rfl <| Er.st (P := (x0 < 24 ∧ kls x0 = 4)) (c2 := (11, [some (.ref x0)], [.ref (fr x0 4), .int (gfi σ (fr x0 3) 2)], σ)) r61_8 rfl rfl h1 <| Er.st (P := ((fr x0 4) < 24 ∧ kls (fr x0 4) = 3)) (c2 := (14, [some (.ref x0)], [.int (gfi σ (fr x0 4) 2), .int (gfi σ (fr x0 3) 2)], σ)) r61_11 rfl rfl h3 <| Er.sT (c2 := (brn .eq (gfi σ (fr x0 3) 2) (gfi σ (fr x0 4) 2) 37 17, [some (.ref x0)], [], σ)) r61_14 rfl rfl <| (br_eq kt kf)
theorem b61_17 {d : Nat} {q : Rs} {x0 : Nat} {σ : St} {σ2 : St} {r : Int32} (h1 : x0 < 24 ∧ kls x0 = 4) (h2 : (fr x0 3) < 24 ∧ kls (fr x0 3) = 3) (h3 : (fr x0 4) < 24 ∧ kls (fr x0 4) = 3)
    (hy : Er d 40 (0, ent 40 [.long ((gfi σ (fr x0 3) 2).toInt64), .long ((gfi σ (fr x0 4) 2).toInt64)], [], σ) (.inl (some (.int r)), σ2, 0))
    (k : Er (d + 1) 61 (36, [some (.ref x0)], [.int r], σ2) q) :
    Er (d + 1) 61 (17, [some (.ref x0)], [], σ) q := Er.sT (c2 := (18, [some (.ref x0)], [.ref x0], σ)) r61_17 rfl rfl <| Er.st (P := (x0 < 24 ∧ kls x0 = 4)) (c2 := (21, [some (.ref x0)], [.ref (fr x0 3)], σ)) r61_18 rfl rfl h1 <| Er.st (P := ((fr x0 3) < 24 ∧ kls (fr x0 3) = 3)) (c2 := (24, [some (.ref x0)], [.int (gfi σ (fr x0 3) 2)], σ)) r61_21 rfl rfl h2 <| Er.sT (c2 := (25, [some (.ref x0)], [.long ((gfi σ (fr x0 3) 2).toInt64)], σ)) r61_24 rfl rfl <| Er.sT (c2 := (26, [some (.ref x0)], [.ref x0, .long ((gfi σ (fr x0 3) 2).toInt64)], σ)) r61_25 rfl rfl <| Er.st (P := (x0 < 24 ∧ kls x0 = 4)) (c2 := (29, [some (.ref x0)], [.ref (fr x0 4), .long ((gfi σ (fr x0 3) 2).toInt64)], σ)) r61_26 rfl rfl h1 <| Er.st (P := ((fr x0 4) < 24 ∧ kls (fr x0 4) = 3)) (c2 := (32, [some (.ref x0)], [.int (gfi σ (fr x0 4) 2), .long ((gfi σ (fr x0 3) 2).toInt64)], σ)) r61_29 rfl rfl h3 <| Er.sT (c2 := (33, [some (.ref x0)], [.long ((gfi σ (fr x0 4) 2).toInt64), .long ((gfi σ (fr x0 3) 2).toInt64)], σ)) r61_32 rfl rfl <| (Er.call (vs := [.long ((gfi σ (fr x0 3) 2).toInt64), .long ((gfi σ (fr x0 4) 2).toInt64)]) (rest := []) r61_33 rfl rfl (Nat.le_of_ble_eq_true rfl) (Nat.le_of_ble_eq_true rfl) (fun h => absurd h (by decide +kernel)) hy k)
theorem b61_36 {d : Nat} {x0 : Nat} {s0 : Int32} {σ : St}  :
    Er (d + 1) 61 (36, [some (.ref x0)], [.int s0], σ) (.inl (some (.int s0)), σ, 0) := (Er.ret r61_36 rfl ⟨_, _, rfl, rfl, rfl, rfl⟩)
theorem b61_37 {d : Nat} {q : Rs} {x0 : Nat} {σ : St} {σ2 : St}  (h1 : x0 < 24 ∧ kls x0 = 4) (h2 : (fr x0 3) < 24 ∧ kls (fr x0 3) = 3) (h3 : (fr x0 4) < 24 ∧ kls (fr x0 4) = 3) (h4 : (fr x0 6) < 24 ∧ kls (fr x0 6) = 2)
    (hy : Er d 27 (0, ent 27 [.ref (fr x0 6), .ref (fr (fr x0 3) 0), .ref (fr (fr x0 4) 1)], [], σ) (.inl none, σ2, 0))
    (k : Er (d + 1) 61 (58, [some (.ref x0)], [], σ2) q) :
    Er (d + 1) 61 (37, [some (.ref x0)], [], σ) q := Er.sT (c2 := (38, [some (.ref x0)], [.ref x0], σ)) r61_37 rfl rfl <| Er.st (P := (x0 < 24 ∧ kls x0 = 4)) (c2 := (41, [some (.ref x0)], [.ref (fr x0 6)], σ)) r61_38 rfl rfl h1 <| Er.sT (c2 := (42, [some (.ref x0)], [.ref x0, .ref (fr x0 6)], σ)) r61_41 rfl rfl <| Er.st (P := (x0 < 24 ∧ kls x0 = 4)) (c2 := (45, [some (.ref x0)], [.ref (fr x0 3), .ref (fr x0 6)], σ)) r61_42 rfl rfl h1 <| Er.st (P := ((fr x0 3) < 24 ∧ kls (fr x0 3) = 3)) (c2 := (48, [some (.ref x0)], [.ref (fr (fr x0 3) 0), .ref (fr x0 6)], σ)) r61_45 rfl rfl h2 <| Er.sT (c2 := (49, [some (.ref x0)], [.ref x0, .ref (fr (fr x0 3) 0), .ref (fr x0 6)], σ)) r61_48 rfl rfl <| Er.st (P := (x0 < 24 ∧ kls x0 = 4)) (c2 := (52, [some (.ref x0)], [.ref (fr x0 4), .ref (fr (fr x0 3) 0), .ref (fr x0 6)], σ)) r61_49 rfl rfl h1 <| Er.st (P := ((fr x0 4) < 24 ∧ kls (fr x0 4) = 3)) (c2 := (55, [some (.ref x0)], [.ref (fr (fr x0 4) 1), .ref (fr (fr x0 3) 0), .ref (fr x0 6)], σ)) r61_52 rfl rfl h3 <| (Er.call (vs := [.ref (fr x0 6), .ref (fr (fr x0 3) 0), .ref (fr (fr x0 4) 1)]) (rest := []) r61_55 rfl rfl (Nat.le_of_ble_eq_true rfl) (Nat.le_of_ble_eq_true rfl) (fun _ => ⟨_, _, rfl, h4⟩) hy k)
theorem b61_58 {d : Nat} {q : Rs} {x0 : Nat} {σ : St} {σ2 : St}  (h1 : x0 < 24 ∧ kls x0 = 4) (h2 : (fr x0 4) < 24 ∧ kls (fr x0 4) = 3) (h3 : (fr x0 3) < 24 ∧ kls (fr x0 3) = 3) (h4 : (fr x0 7) < 24 ∧ kls (fr x0 7) = 2)
    (hy : Er d 27 (0, ent 27 [.ref (fr x0 7), .ref (fr (fr x0 4) 0), .ref (fr (fr x0 3) 1)], [], σ) (.inl none, σ2, 0))
    (k : Er (d + 1) 61 (79, [some (.ref x0)], [], σ2) q) :
    Er (d + 1) 61 (58, [some (.ref x0)], [], σ) q := Er.sT (c2 := (59, [some (.ref x0)], [.ref x0], σ)) r61_58 rfl rfl <| Er.st (P := (x0 < 24 ∧ kls x0 = 4)) (c2 := (62, [some (.ref x0)], [.ref (fr x0 7)], σ)) r61_59 rfl rfl h1 <| Er.sT (c2 := (63, [some (.ref x0)], [.ref x0, .ref (fr x0 7)], σ)) r61_62 rfl rfl <| Er.st (P := (x0 < 24 ∧ kls x0 = 4)) (c2 := (66, [some (.ref x0)], [.ref (fr x0 4), .ref (fr x0 7)], σ)) r61_63 rfl rfl h1 <| Er.st (P := ((fr x0 4) < 24 ∧ kls (fr x0 4) = 3)) (c2 := (69, [some (.ref x0)], [.ref (fr (fr x0 4) 0), .ref (fr x0 7)], σ)) r61_66 rfl rfl h2 <| Er.sT (c2 := (70, [some (.ref x0)], [.ref x0, .ref (fr (fr x0 4) 0), .ref (fr x0 7)], σ)) r61_69 rfl rfl <| Er.st (P := (x0 < 24 ∧ kls x0 = 4)) (c2 := (73, [some (.ref x0)], [.ref (fr x0 3), .ref (fr (fr x0 4) 0), .ref (fr x0 7)], σ)) r61_70 rfl rfl h1 <| Er.st (P := ((fr x0 3) < 24 ∧ kls (fr x0 3) = 3)) (c2 := (76, [some (.ref x0)], [.ref (fr (fr x0 3) 1), .ref (fr (fr x0 4) 0), .ref (fr x0 7)], σ)) r61_73 rfl rfl h3 <| (Er.call (vs := [.ref (fr x0 7), .ref (fr (fr x0 4) 0), .ref (fr (fr x0 3) 1)]) (rest := []) r61_76 rfl rfl (Nat.le_of_ble_eq_true rfl) (Nat.le_of_ble_eq_true rfl) (fun _ => ⟨_, _, rfl, h4⟩) hy k)
theorem b61_79 {d : Nat} {q : Rs} {x0 : Nat} {σ : St} {σ2 : St} {r : Int32} (h1 : x0 < 24 ∧ kls x0 = 4) (h2 : (fr x0 3) < 24 ∧ kls (fr x0 3) = 3) (h3 : (fr x0 6) < 24 ∧ kls (fr x0 6) = 2)
    (hy : Er d 20 (0, ent 20 [.ref (fr x0 6), .ref (fr x0 7)], [], σ) (.inl (some (.int r)), σ2, 0))
    (k : Er (d + 1) 61 (97, [some (.ref x0)], [.int r, .int (gfi σ (fr x0 3) 2)], σ2) q) :
    Er (d + 1) 61 (79, [some (.ref x0)], [], σ) q := Er.sT (c2 := (80, [some (.ref x0)], [.ref x0], σ)) r61_79 rfl rfl <| Er.st (P := (x0 < 24 ∧ kls x0 = 4)) (c2 := (83, [some (.ref x0)], [.ref (fr x0 3)], σ)) r61_80 rfl rfl h1 <| Er.st (P := ((fr x0 3) < 24 ∧ kls (fr x0 3) = 3)) (c2 := (86, [some (.ref x0)], [.int (gfi σ (fr x0 3) 2)], σ)) r61_83 rfl rfl h2 <| Er.sT (c2 := (87, [some (.ref x0)], [.ref x0, .int (gfi σ (fr x0 3) 2)], σ)) r61_86 rfl rfl <| Er.st (P := (x0 < 24 ∧ kls x0 = 4)) (c2 := (90, [some (.ref x0)], [.ref (fr x0 6), .int (gfi σ (fr x0 3) 2)], σ)) r61_87 rfl rfl h1 <| Er.sT (c2 := (91, [some (.ref x0)], [.ref x0, .ref (fr x0 6), .int (gfi σ (fr x0 3) 2)], σ)) r61_90 rfl rfl <| Er.st (P := (x0 < 24 ∧ kls x0 = 4)) (c2 := (94, [some (.ref x0)], [.ref (fr x0 7), .ref (fr x0 6), .int (gfi σ (fr x0 3) 2)], σ)) r61_91 rfl rfl h1 <| (Er.call (vs := [.ref (fr x0 6), .ref (fr x0 7)]) (rest := [.int (gfi σ (fr x0 3) 2)]) r61_94 rfl rfl (Nat.le_of_ble_eq_true rfl) (Nat.le_of_ble_eq_true rfl) (fun _ => ⟨_, _, rfl, h3⟩) hy k)
theorem b61_97 {d : Nat} {x0 : Nat} {s0 : Int32} {s1 : Int32} {σ : St}  :
    Er (d + 1) 61 (97, [some (.ref x0)], [.int s1, .int s0], σ) (.inl (some (.int (s0 * s1))), σ, 0) := Er.sT (c2 := (98, [some (.ref x0)], [.int (s0 * s1)], σ)) r61_97 rfl rfl <| (Er.ret r61_98 rfl ⟨_, _, rfl, rfl, rfl, rfl⟩)
/-! NumberModels.word(II)J -/
theorem tab_62 : tab 62 = tb62_0 := rfl
theorem ch62_0 {j : Nat} {r : Row} (h : tb62_0[j]? = some r) : rowAt 62 r.1 = some r := row_mem 62 (by decide) (by rw [tab_62]; exact List.mem_of_getElem? h)
theorem r62_0 : rowAt 62 0 = some (r0 0 1 (.aload_n 0)) := ch62_0 (j := 0) rfl
theorem r62_1 : rowAt 62 1 = some (ra 1 2 (.iload_n 1) 1 0 0) := ch62_0 (j := 1) rfl
theorem r62_2 : rowAt 62 2 = some (ra 2 5 (.invokevirtual 123) 49 2 556) := ch62_0 (j := 2) rfl
theorem r62_5 : rowAt 62 5 = some (ra 5 6 (.iload_n 2) 2 0 0) := ch62_0 (j := 3) rfl
theorem r62_6 : rowAt 62 6 = some (ra 6 9 (.ifCond .lt 9) 15 0 0) := ch62_0 (j := 4) rfl
theorem r62_9 : rowAt 62 9 = some (ra 9 10 (.iload_n 2) 2 0 0) := ch62_0 (j := 5) rfl
theorem r62_10 : rowAt 62 10 = some (10, 12, .bipush 16, 0, 0, 0, 16, 0) := ch62_0 (j := 6) rfl
theorem r62_12 : rowAt 62 12 = some (ra 12 15 (.if_icmp .lt 13) 25 0 0) := ch62_0 (j := 7) rfl
theorem r62_15 : rowAt 62 15 = some (ra 15 18 (.new 139) 0 8 560) := ch62_0 (j := 8) rfl
theorem r62_25 : rowAt 62 25 = some (r0 25 26 (.aload_n 0)) := ch62_0 (j := 9) rfl
theorem r62_26 : rowAt 62 26 = some (ra 26 29 (.getfield 9) 0 4 190) := ch62_0 (j := 10) rfl
theorem r62_29 : rowAt 62 29 = some (ra 29 30 (.iload_n 1) 1 0 0) := ch62_0 (j := 11) rfl
theorem r62_30 : rowAt 62 30 = some (30, 32, .bipush 16, 0, 0, 0, 16, 0) := ch62_0 (j := 12) rfl
theorem r62_32 : rowAt 62 32 = some (r0 32 33 (.imul)) := ch62_0 (j := 13) rfl
theorem r62_33 : rowAt 62 33 = some (ra 33 34 (.iload_n 2) 2 0 0) := ch62_0 (j := 14) rfl
theorem r62_34 : rowAt 62 34 = some (r0 34 35 (.iadd)) := ch62_0 (j := 15) rfl
theorem r62_35 : rowAt 62 35 = some (r0 35 36 (.laload)) := ch62_0 (j := 16) rfl
theorem r62_36 : rowAt 62 36 = some (r0 36 37 (.lreturn)) := ch62_0 (j := 17) rfl
theorem b62_0 {d : Nat} {q : Rs} {x0 : Nat} {x1 : Int32} {x2 : Int32} {σ : St} {σ2 : St}  (h1 : x0 < 24 ∧ kls x0 = 4)
    (hy : Er d 49 (0, ent 49 [.ref x0, .int x1], [], σ) (.inl none, σ2, 0))
    (k : Er (d + 1) 62 (5, [some (.ref x0), some (.int x1), some (.int x2)], [], σ2) q) :
    Er (d + 1) 62 (0, [some (.ref x0), some (.int x1), some (.int x2)], [], σ) q := Er.sT (c2 := (1, [some (.ref x0), some (.int x1), some (.int x2)], [.ref x0], σ)) r62_0 rfl rfl <| Er.sT (c2 := (2, [some (.ref x0), some (.int x1), some (.int x2)], [.int x1, .ref x0], σ)) r62_1 rfl rfl <| (Er.call (vs := [.ref x0, .int x1]) (rest := []) r62_2 rfl rfl (Nat.le_of_ble_eq_true rfl) (Nat.le_of_ble_eq_true rfl) (fun _ => ⟨_, _, rfl, h1⟩) hy k)
theorem b62_0x {d x c9 : Nat} {x0 : Nat} {x1 : Int32} {x2 : Int32} {σ : St} {σ2 : St} (h1 : x0 < 24 ∧ kls x0 = 4) (hx : x < 4)
    (hy : Er d 49 (0, ent 49 [.ref x0, .int x1], [], σ) (.inr x, σ2, c9)) :
    Er (d + 1) 62 (0, [some (.ref x0), some (.int x1), some (.int x2)], [], σ) (.inr x, σ2, c9) := Er.sT (c2 := (1, [some (.ref x0), some (.int x1), some (.int x2)], [.ref x0], σ)) r62_0 rfl rfl <| Er.sT (c2 := (2, [some (.ref x0), some (.int x1), some (.int x2)], [.int x1, .ref x0], σ)) r62_1 rfl rfl <| (Er.callx (vs := [.ref x0, .int x1]) (rest := []) r62_2 rfl rfl (Nat.le_of_ble_eq_true rfl) (Nat.le_of_ble_eq_true rfl) (fun _ => ⟨_, _, rfl, h1⟩) hx rfl rfl hy)
theorem b62_5 {d : Nat} {q : Rs} {x0 : Nat} {x1 : Int32} {x2 : Int32} {σ : St} 
    (kt : x2 < (0 : Int32) → Er (d + 1) 62 (15, [some (.ref x0), some (.int x1), some (.int x2)], [], σ) q)
    (kf : ¬ x2 < (0 : Int32) → Er (d + 1) 62 (9, [some (.ref x0), some (.int x1), some (.int x2)], [], σ) q) :
    Er (d + 1) 62 (5, [some (.ref x0), some (.int x1), some (.int x2)], [], σ) q := Er.sT (c2 := (6, [some (.ref x0), some (.int x1), some (.int x2)], [.int x2], σ)) r62_5 rfl rfl <| Er.sT (c2 := (brn .lt x2 (0 : Int32) 15 9, [some (.ref x0), some (.int x1), some (.int x2)], [], σ)) r62_6 rfl rfl <| (br_lt kt kf)
theorem b62_9 {d : Nat} {q : Rs} {x0 : Nat} {x1 : Int32} {x2 : Int32} {σ : St} 
    (kt : x2 < (16 : Int32) → Er (d + 1) 62 (25, [some (.ref x0), some (.int x1), some (.int x2)], [], σ) q)
    (kf : ¬ x2 < (16 : Int32) → Er (d + 1) 62 (15, [some (.ref x0), some (.int x1), some (.int x2)], [], σ) q) :
    Er (d + 1) 62 (9, [some (.ref x0), some (.int x1), some (.int x2)], [], σ) q := Er.sT (c2 := (10, [some (.ref x0), some (.int x1), some (.int x2)], [.int x2], σ)) r62_9 rfl rfl <| Er.sT (c2 := (12, [some (.ref x0), some (.int x1), some (.int x2)], [.int (16 : Int32), .int x2], σ)) r62_10 rfl rfl <| Er.sT (c2 := (brn .lt x2 (16 : Int32) 25 15, [some (.ref x0), some (.int x1), some (.int x2)], [], σ)) r62_12 rfl rfl <| (br_lt kt kf)
theorem b62_15 {d : Nat} {x0 : Nat} {x1 : Int32} {x2 : Int32} {σ : St}  :
    Er (d + 6) 62 (15, [some (.ref x0), some (.int x1), some (.int x2)], [], σ) (.inr 0, σ, 1) := (Er.thr r62_15 rfl rfl)
theorem b62_25 {d : Nat} {x0 : Nat} {x1 : Int32} {x2 : Int32} {σ : St} (h1 : x0 < 24 ∧ kls x0 = 4) (h2 : isL (fr x0 0) ∧ vp_in ((x1 * (16 : Int32)) + x2) (ale (fr x0 0))) :
    Er (d + 1) 62 (25, [some (.ref x0), some (.int x1), some (.int x2)], [], σ) (.inl (some (.long (gal σ (fr x0 0) ((x1 * (16 : Int32)) + x2).toNatClampNeg))), σ, 0) := Er.sT (c2 := (26, [some (.ref x0), some (.int x1), some (.int x2)], [.ref x0], σ)) r62_25 rfl rfl <| Er.st (P := (x0 < 24 ∧ kls x0 = 4)) (c2 := (29, [some (.ref x0), some (.int x1), some (.int x2)], [.ref (fr x0 0)], σ)) r62_26 rfl rfl h1 <| Er.sT (c2 := (30, [some (.ref x0), some (.int x1), some (.int x2)], [.int x1, .ref (fr x0 0)], σ)) r62_29 rfl rfl <| Er.sT (c2 := (32, [some (.ref x0), some (.int x1), some (.int x2)], [.int (16 : Int32), .int x1, .ref (fr x0 0)], σ)) r62_30 rfl rfl <| Er.sT (c2 := (33, [some (.ref x0), some (.int x1), some (.int x2)], [.int (x1 * (16 : Int32)), .ref (fr x0 0)], σ)) r62_32 rfl rfl <| Er.sT (c2 := (34, [some (.ref x0), some (.int x1), some (.int x2)], [.int x2, .int (x1 * (16 : Int32)), .ref (fr x0 0)], σ)) r62_33 rfl rfl <| Er.sT (c2 := (35, [some (.ref x0), some (.int x1), some (.int x2)], [.int ((x1 * (16 : Int32)) + x2), .ref (fr x0 0)], σ)) r62_34 rfl rfl <| Er.st (P := (isL (fr x0 0) ∧ vp_in ((x1 * (16 : Int32)) + x2) (ale (fr x0 0)))) (c2 := (36, [some (.ref x0), some (.int x1), some (.int x2)], [.long (gal σ (fr x0 0) ((x1 * (16 : Int32)) + x2).toNatClampNeg)], σ)) r62_35 rfl rfl h2 <| (Er.ret r62_36 rfl ⟨_, rfl, rfl, rfl⟩)
/-! NumberModels.sign(I)I -/
theorem tab_63 : tab 63 = tb63_0 := rfl
theorem ch63_0 {j : Nat} {r : Row} (h : tb63_0[j]? = some r) : rowAt 63 r.1 = some r := row_mem 63 (by decide) (by rw [tab_63]; exact List.mem_of_getElem? h)
theorem r63_0 : rowAt 63 0 = some (r0 0 1 (.aload_n 0)) := ch63_0 (j := 0) rfl
theorem r63_1 : rowAt 63 1 = some (ra 1 2 (.iload_n 1) 1 0 0) := ch63_0 (j := 1) rfl
theorem r63_2 : rowAt 63 2 = some (ra 2 5 (.invokevirtual 123) 49 2 556) := ch63_0 (j := 2) rfl
theorem r63_5 : rowAt 63 5 = some (r0 5 6 (.aload_n 0)) := ch63_0 (j := 3) rfl
theorem r63_6 : rowAt 63 6 = some (ra 6 9 (.getfield 13) 1 4 191) := ch63_0 (j := 4) rfl
theorem r63_9 : rowAt 63 9 = some (ra 9 10 (.iload_n 1) 1 0 0) := ch63_0 (j := 5) rfl
theorem r63_10 : rowAt 63 10 = some (r0 10 11 (.iaload)) := ch63_0 (j := 6) rfl
theorem r63_11 : rowAt 63 11 = some (r0 11 12 (.ireturn)) := ch63_0 (j := 7) rfl
theorem b63_0 {d : Nat} {q : Rs} {x0 : Nat} {x1 : Int32} {σ : St} {σ2 : St}  (h1 : x0 < 24 ∧ kls x0 = 4)
    (hy : Er d 49 (0, ent 49 [.ref x0, .int x1], [], σ) (.inl none, σ2, 0))
    (k : Er (d + 1) 63 (5, [some (.ref x0), some (.int x1)], [], σ2) q) :
    Er (d + 1) 63 (0, [some (.ref x0), some (.int x1)], [], σ) q := Er.sT (c2 := (1, [some (.ref x0), some (.int x1)], [.ref x0], σ)) r63_0 rfl rfl <| Er.sT (c2 := (2, [some (.ref x0), some (.int x1)], [.int x1, .ref x0], σ)) r63_1 rfl rfl <| (Er.call (vs := [.ref x0, .int x1]) (rest := []) r63_2 rfl rfl (Nat.le_of_ble_eq_true rfl) (Nat.le_of_ble_eq_true rfl) (fun _ => ⟨_, _, rfl, h1⟩) hy k)
theorem b63_0x {d x c9 : Nat} {x0 : Nat} {x1 : Int32} {σ : St} {σ2 : St} (h1 : x0 < 24 ∧ kls x0 = 4) (hx : x < 4)
    (hy : Er d 49 (0, ent 49 [.ref x0, .int x1], [], σ) (.inr x, σ2, c9)) :
    Er (d + 1) 63 (0, [some (.ref x0), some (.int x1)], [], σ) (.inr x, σ2, c9) := Er.sT (c2 := (1, [some (.ref x0), some (.int x1)], [.ref x0], σ)) r63_0 rfl rfl <| Er.sT (c2 := (2, [some (.ref x0), some (.int x1)], [.int x1, .ref x0], σ)) r63_1 rfl rfl <| (Er.callx (vs := [.ref x0, .int x1]) (rest := []) r63_2 rfl rfl (Nat.le_of_ble_eq_true rfl) (Nat.le_of_ble_eq_true rfl) (fun _ => ⟨_, _, rfl, h1⟩) hx rfl rfl hy)
theorem b63_5 {d : Nat} {x0 : Nat} {x1 : Int32} {σ : St} (h1 : x0 < 24 ∧ kls x0 = 4) (h2 : ¬ (fr x0 1) = 48) (h3 : ((fr x0 1) = 41 ∨ (fr x0 1) = 42) ∧ vp_in x1 (ale (fr x0 1))) :
    Er (d + 1) 63 (5, [some (.ref x0), some (.int x1)], [], σ) (.inl (some (.int (gai σ (fr x0 1) x1.toNatClampNeg))), σ, 0) := Er.sT (c2 := (6, [some (.ref x0), some (.int x1)], [.ref x0], σ)) r63_5 rfl rfl <| Er.st (P := (x0 < 24 ∧ kls x0 = 4)) (c2 := (9, [some (.ref x0), some (.int x1)], [.ref (fr x0 1)], σ)) r63_6 rfl rfl h1 <| Er.sT (c2 := (10, [some (.ref x0), some (.int x1)], [.int x1, .ref (fr x0 1)], σ)) r63_9 rfl rfl <| Er.st (P := (((fr x0 1) = 41 ∨ (fr x0 1) = 42) ∧ vp_in x1 (ale (fr x0 1)))) (c2 := (11, [some (.ref x0), some (.int x1)], [.int (gai σ (fr x0 1) x1.toNatClampNeg)], σ)) r63_10 rfl (if_neg h2) h3 <| (Er.ret r63_11 rfl ⟨_, _, rfl, rfl, rfl, rfl⟩)
/-! NumberModels.bits(IZ)I -/
theorem tab_64 : tab 64 = tb64_0 := rfl
theorem ch64_0 {j : Nat} {r : Row} (h : tb64_0[j]? = some r) : rowAt 64 r.1 = some r := row_mem 64 (by decide) (by rw [tab_64]; exact List.mem_of_getElem? h)
theorem r64_0 : rowAt 64 0 = some (r0 0 1 (.aload_n 0)) := ch64_0 (j := 0) rfl
theorem r64_1 : rowAt 64 1 = some (ra 1 2 (.iload_n 1) 1 0 0) := ch64_0 (j := 1) rfl
theorem r64_2 : rowAt 64 2 = some (ra 2 5 (.invokevirtual 123) 49 2 556) := ch64_0 (j := 2) rfl
theorem r64_5 : rowAt 64 5 = some (r0 5 6 (.aload_n 0)) := ch64_0 (j := 3) rfl
theorem r64_6 : rowAt 64 6 = some (ra 6 7 (.iload_n 1) 1 0 0) := ch64_0 (j := 4) rfl
theorem r64_7 : rowAt 64 7 = some (r0 7 8 (.aload_n 0)) := ch64_0 (j := 5) rfl
theorem r64_8 : rowAt 64 8 = some (ra 8 11 (.getfield 20) 3 4 193) := ch64_0 (j := 6) rfl
theorem r64_11 : rowAt 64 11 = some (ra 11 14 (.invokevirtual 126) 50 3 576) := ch64_0 (j := 7) rfl
theorem r64_14 : rowAt 64 14 = some (ra 14 15 (.iload_n 2) 2 0 0) := ch64_0 (j := 8) rfl
theorem r64_15 : rowAt 64 15 = some (ra 15 18 (.ifCond .eq 16) 31 0 0) := ch64_0 (j := 9) rfl
theorem r64_18 : rowAt 64 18 = some (r0 18 19 (.aload_n 0)) := ch64_0 (j := 10) rfl
theorem r64_19 : rowAt 64 19 = some (ra 19 22 (.getfield 20) 3 4 193) := ch64_0 (j := 11) rfl
theorem r64_22 : rowAt 64 22 = some (ra 22 25 (.getfield 65) 0 3 122) := ch64_0 (j := 12) rfl
theorem r64_25 : rowAt 64 25 = some (ra 25 28 (.invokevirtual 144) 14 1 333) := ch64_0 (j := 13) rfl
theorem r64_28 : rowAt 64 28 = some (ra 28 31 (.goto 13) 41 0 0) := ch64_0 (j := 14) rfl
theorem r64_31 : rowAt 64 31 = some (r0 31 32 (.aload_n 0)) := ch64_0 (j := 15) rfl
theorem r64_32 : rowAt 64 32 = some (ra 32 35 (.getfield 20) 3 4 193) := ch64_0 (j := 16) rfl
theorem r64_35 : rowAt 64 35 = some (ra 35 38 (.getfield 76) 1 3 124) := ch64_0 (j := 17) rfl
theorem r64_38 : rowAt 64 38 = some (ra 38 41 (.invokevirtual 144) 14 1 333) := ch64_0 (j := 18) rfl
theorem r64_41 : rowAt 64 41 = some (r0 41 42 (.ireturn)) := ch64_0 (j := 19) rfl
theorem b64_0 {d : Nat} {q : Rs} {x0 : Nat} {x1 : Int32} {x2 : Int32} {σ : St} {σ2 : St}  (h1 : x0 < 24 ∧ kls x0 = 4)
    (hy : Er d 49 (0, ent 49 [.ref x0, .int x1], [], σ) (.inl none, σ2, 0))
    (k : Er (d + 1) 64 (5, [some (.ref x0), some (.int x1), some (.int x2)], [], σ2) q) :
    Er (d + 1) 64 (0, [some (.ref x0), some (.int x1), some (.int x2)], [], σ) q := Er.sT (c2 := (1, [some (.ref x0), some (.int x1), some (.int x2)], [.ref x0], σ)) r64_0 rfl rfl <| Er.sT (c2 := (2, [some (.ref x0), some (.int x1), some (.int x2)], [.int x1, .ref x0], σ)) r64_1 rfl rfl <| (Er.call (vs := [.ref x0, .int x1]) (rest := []) r64_2 rfl rfl (Nat.le_of_ble_eq_true rfl) (Nat.le_of_ble_eq_true rfl) (fun _ => ⟨_, _, rfl, h1⟩) hy k)
theorem b64_0x {d x c9 : Nat} {x0 : Nat} {x1 : Int32} {x2 : Int32} {σ : St} {σ2 : St} (h1 : x0 < 24 ∧ kls x0 = 4) (hx : x < 4)
    (hy : Er d 49 (0, ent 49 [.ref x0, .int x1], [], σ) (.inr x, σ2, c9)) :
    Er (d + 1) 64 (0, [some (.ref x0), some (.int x1), some (.int x2)], [], σ) (.inr x, σ2, c9) := Er.sT (c2 := (1, [some (.ref x0), some (.int x1), some (.int x2)], [.ref x0], σ)) r64_0 rfl rfl <| Er.sT (c2 := (2, [some (.ref x0), some (.int x1), some (.int x2)], [.int x1, .ref x0], σ)) r64_1 rfl rfl <| (Er.callx (vs := [.ref x0, .int x1]) (rest := []) r64_2 rfl rfl (Nat.le_of_ble_eq_true rfl) (Nat.le_of_ble_eq_true rfl) (fun _ => ⟨_, _, rfl, h1⟩) hx rfl rfl hy)
theorem b64_5 {d : Nat} {q : Rs} {x0 : Nat} {x1 : Int32} {x2 : Int32} {σ : St} {σ2 : St}  (h1 : x0 < 24 ∧ kls x0 = 4)
    (hy : Er d 50 (0, ent 50 [.ref x0, .int x1, .ref (fr x0 3)], [], σ) (.inl none, σ2, 0))
    (k : Er (d + 1) 64 (14, [some (.ref x0), some (.int x1), some (.int x2)], [], σ2) q) :
    Er (d + 1) 64 (5, [some (.ref x0), some (.int x1), some (.int x2)], [], σ) q := Er.sT (c2 := (6, [some (.ref x0), some (.int x1), some (.int x2)], [.ref x0], σ)) r64_5 rfl rfl <| Er.sT (c2 := (7, [some (.ref x0), some (.int x1), some (.int x2)], [.int x1, .ref x0], σ)) r64_6 rfl rfl <| Er.sT (c2 := (8, [some (.ref x0), some (.int x1), some (.int x2)], [.ref x0, .int x1, .ref x0], σ)) r64_7 rfl rfl <| Er.st (P := (x0 < 24 ∧ kls x0 = 4)) (c2 := (11, [some (.ref x0), some (.int x1), some (.int x2)], [.ref (fr x0 3), .int x1, .ref x0], σ)) r64_8 rfl rfl h1 <| (Er.call (vs := [.ref x0, .int x1, .ref (fr x0 3)]) (rest := []) r64_11 rfl rfl (Nat.le_of_ble_eq_true rfl) (Nat.le_of_ble_eq_true rfl) (fun _ => ⟨_, _, rfl, h1⟩) hy k)
theorem b64_14 {d : Nat} {q : Rs} {x0 : Nat} {x1 : Int32} {x2 : Int32} {σ : St} 
    (kt : x2 = (0 : Int32) → Er (d + 1) 64 (31, [some (.ref x0), some (.int x1), some (.int x2)], [], σ) q)
    (kf : ¬ x2 = (0 : Int32) → Er (d + 1) 64 (18, [some (.ref x0), some (.int x1), some (.int x2)], [], σ) q) :
    Er (d + 1) 64 (14, [some (.ref x0), some (.int x1), some (.int x2)], [], σ) q := Er.sT (c2 := (15, [some (.ref x0), some (.int x1), some (.int x2)], [.int x2], σ)) r64_14 rfl rfl <| Er.sT (c2 := (brn .eq x2 (0 : Int32) 31 18, [some (.ref x0), some (.int x1), some (.int x2)], [], σ)) r64_15 rfl rfl <| (br_eq kt kf)
theorem b64_18 {d : Nat} {q : Rs} {x0 : Nat} {x1 : Int32} {x2 : Int32} {σ : St} {σ2 : St} {r : Int32} (h1 : x0 < 24 ∧ kls x0 = 4) (h2 : (fr x0 3) < 24 ∧ kls (fr x0 3) = 3) (h3 : (fr (fr x0 3) 0) < 24 ∧ kls (fr (fr x0 3) 0) = 2)
    (hy : Er d 14 (0, ent 14 [.ref (fr (fr x0 3) 0)], [], σ) (.inl (some (.int r)), σ2, 0))
    (k : Er (d + 1) 64 (28, [some (.ref x0), some (.int x1), some (.int x2)], [.int r], σ2) q) :
    Er (d + 1) 64 (18, [some (.ref x0), some (.int x1), some (.int x2)], [], σ) q := Er.sT (c2 := (19, [some (.ref x0), some (.int x1), some (.int x2)], [.ref x0], σ)) r64_18 rfl rfl <| Er.st (P := (x0 < 24 ∧ kls x0 = 4)) (c2 := (22, [some (.ref x0), some (.int x1), some (.int x2)], [.ref (fr x0 3)], σ)) r64_19 rfl rfl h1 <| Er.st (P := ((fr x0 3) < 24 ∧ kls (fr x0 3) = 3)) (c2 := (25, [some (.ref x0), some (.int x1), some (.int x2)], [.ref (fr (fr x0 3) 0)], σ)) r64_22 rfl rfl h2 <| (Er.call (vs := [.ref (fr (fr x0 3) 0)]) (rest := []) r64_25 rfl rfl (Nat.le_of_ble_eq_true rfl) (Nat.le_of_ble_eq_true rfl) (fun _ => ⟨_, _, rfl, h3⟩) hy k)
theorem b64_28 {d : Nat} {q : Rs} {x0 : Nat} {x1 : Int32} {x2 : Int32} {s0 : Int32} {σ : St} 
    (k : Er (d + 1) 64 (41, [some (.ref x0), some (.int x1), some (.int x2)], [.int s0], σ) q) :
    Er (d + 1) 64 (28, [some (.ref x0), some (.int x1), some (.int x2)], [.int s0], σ) q := Er.sT (c2 := (41, [some (.ref x0), some (.int x1), some (.int x2)], [.int s0], σ)) r64_28 rfl rfl <| k
theorem b64_31 {d : Nat} {q : Rs} {x0 : Nat} {x1 : Int32} {x2 : Int32} {σ : St} {σ2 : St} {r : Int32} (h1 : x0 < 24 ∧ kls x0 = 4) (h2 : (fr x0 3) < 24 ∧ kls (fr x0 3) = 3) (h3 : (fr (fr x0 3) 1) < 24 ∧ kls (fr (fr x0 3) 1) = 2)
    (hy : Er d 14 (0, ent 14 [.ref (fr (fr x0 3) 1)], [], σ) (.inl (some (.int r)), σ2, 0))
    (k : Er (d + 1) 64 (41, [some (.ref x0), some (.int x1), some (.int x2)], [.int r], σ2) q) :
    Er (d + 1) 64 (31, [some (.ref x0), some (.int x1), some (.int x2)], [], σ) q := Er.sT (c2 := (32, [some (.ref x0), some (.int x1), some (.int x2)], [.ref x0], σ)) r64_31 rfl rfl <| Er.st (P := (x0 < 24 ∧ kls x0 = 4)) (c2 := (35, [some (.ref x0), some (.int x1), some (.int x2)], [.ref (fr x0 3)], σ)) r64_32 rfl rfl h1 <| Er.st (P := ((fr x0 3) < 24 ∧ kls (fr x0 3) = 3)) (c2 := (38, [some (.ref x0), some (.int x1), some (.int x2)], [.ref (fr (fr x0 3) 1)], σ)) r64_35 rfl rfl h2 <| (Er.call (vs := [.ref (fr (fr x0 3) 1)]) (rest := []) r64_38 rfl rfl (Nat.le_of_ble_eq_true rfl) (Nat.le_of_ble_eq_true rfl) (fun _ => ⟨_, _, rfl, h3⟩) hy k)
theorem b64_41 {d : Nat} {x0 : Nat} {x1 : Int32} {x2 : Int32} {s0 : Int32} {σ : St}  :
    Er (d + 1) 64 (41, [some (.ref x0), some (.int x1), some (.int x2)], [.int s0], σ) (.inl (some (.int s0)), σ, 0) := (Er.ret r64_41 rfl ⟨_, _, rfl, rfl, rfl, rfl⟩)
/-! NumberModels.wrap(IIZ)J -/
theorem tab_65 : tab 65 = tb65_0 := rfl
theorem ch65_0 {j : Nat} {r : Row} (h : tb65_0[j]? = some r) : rowAt 65 r.1 = some r := row_mem 65 (by decide) (by rw [tab_65]; exact List.mem_of_getElem? h)
theorem r65_0 : rowAt 65 0 = some (r0 0 1 (.aload_n 0)) := ch65_0 (j := 0) rfl
theorem r65_1 : rowAt 65 1 = some (ra 1 2 (.iload_n 1) 1 0 0) := ch65_0 (j := 1) rfl
theorem r65_2 : rowAt 65 2 = some (ra 2 5 (.invokevirtual 123) 49 2 556) := ch65_0 (j := 2) rfl
theorem r65_5 : rowAt 65 5 = some (ra 5 6 (.iload_n 2) 2 0 0) := ch65_0 (j := 3) rfl
theorem r65_6 : rowAt 65 6 = some (6, 7, .iconst 1, 0, 0, 0, 1, 0) := ch65_0 (j := 4) rfl
theorem r65_7 : rowAt 65 7 = some (ra 7 10 (.if_icmp .lt 9) 16 0 0) := ch65_0 (j := 5) rfl
theorem r65_10 : rowAt 65 10 = some (ra 10 11 (.iload_n 2) 2 0 0) := ch65_0 (j := 6) rfl
theorem r65_11 : rowAt 65 11 = some (11, 13, .bipush 64, 0, 0, 0, 64, 0) := ch65_0 (j := 7) rfl
theorem r65_13 : rowAt 65 13 = some (ra 13 16 (.if_icmp .le 13) 26 0 0) := ch65_0 (j := 8) rfl
theorem r65_16 : rowAt 65 16 = some (ra 16 19 (.new 147) 1 9 594) := ch65_0 (j := 9) rfl
theorem r65_26 : rowAt 65 26 = some (r0 26 27 (.aload_n 0)) := ch65_0 (j := 10) rfl
theorem r65_27 : rowAt 65 27 = some (ra 27 28 (.iload_n 1) 1 0 0) := ch65_0 (j := 11) rfl
theorem r65_28 : rowAt 65 28 = some (r0 28 29 (.aload_n 0)) := ch65_0 (j := 12) rfl
theorem r65_29 : rowAt 65 29 = some (ra 29 32 (.getfield 20) 3 4 193) := ch65_0 (j := 13) rfl
theorem r65_32 : rowAt 65 32 = some (ra 32 35 (.invokevirtual 126) 50 3 576) := ch65_0 (j := 14) rfl
theorem r65_35 : rowAt 65 35 = some (r0 35 36 (.aload_n 0)) := ch65_0 (j := 15) rfl
theorem r65_36 : rowAt 65 36 = some (ra 36 39 (.getfield 43) 8 4 198) := ch65_0 (j := 16) rfl
theorem r65_39 : rowAt 65 39 = some (r0 39 40 (.aload_n 0)) := ch65_0 (j := 17) rfl
theorem r65_40 : rowAt 65 40 = some (ra 40 43 (.getfield 20) 3 4 193) := ch65_0 (j := 18) rfl
theorem r65_43 : rowAt 65 43 = some (ra 43 46 (.getfield 65) 0 3 122) := ch65_0 (j := 19) rfl
theorem r65_46 : rowAt 65 46 = some (r0 46 47 (.aload_n 0)) := ch65_0 (j := 20) rfl
theorem r65_47 : rowAt 65 47 = some (ra 47 50 (.getfield 20) 3 4 193) := ch65_0 (j := 21) rfl
theorem r65_50 : rowAt 65 50 = some (ra 50 53 (.getfield 76) 1 3 124) := ch65_0 (j := 22) rfl
theorem r65_53 : rowAt 65 53 = some (ra 53 56 (.invokevirtual 152) 6 3 485) := ch65_0 (j := 23) rfl
theorem r65_56 : rowAt 65 56 = some (r0 56 57 (.aload_n 0)) := ch65_0 (j := 24) rfl
theorem r65_57 : rowAt 65 57 = some (ra 57 60 (.getfield 43) 8 4 198) := ch65_0 (j := 25) rfl
theorem r65_60 : rowAt 65 60 = some (ra 60 63 (.getfield 156) 0 1 145) := ch65_0 (j := 26) rfl
theorem r65_63 : rowAt 65 63 = some (ra 63 66 (.invokevirtual 159) 24 1 663) := ch65_0 (j := 27) rfl
theorem r65_66 : rowAt 65 66 = some (ra 66 68 (.lstore 4) 4 0 0) := ch65_0 (j := 28) rfl
theorem r65_68 : rowAt 65 68 = some (68, 70, .bipush 64, 0, 0, 0, 64, 0) := ch65_0 (j := 29) rfl
theorem r65_70 : rowAt 65 70 = some (ra 70 71 (.iload_n 2) 2 0 0) := ch65_0 (j := 30) rfl
theorem r65_71 : rowAt 65 71 = some (r0 71 72 (.isub)) := ch65_0 (j := 31) rfl
theorem r65_72 : rowAt 65 72 = some (ra 72 74 (.istore 6) 6 0 0) := ch65_0 (j := 32) rfl
theorem r65_74 : rowAt 65 74 = some (r0 74 75 (.aload_n 0)) := ch65_0 (j := 33) rfl
theorem r65_75 : rowAt 65 75 = some (ra 75 78 (.getfield 20) 3 4 193) := ch65_0 (j := 34) rfl
theorem r65_78 : rowAt 65 78 = some (ra 78 81 (.getfield 62) 2 3 126) := ch65_0 (j := 35) rfl
theorem r65_81 : rowAt 65 81 = some (ra 81 84 (.ifCond .ge 9) 90 0 0) := ch65_0 (j := 36) rfl
theorem r65_84 : rowAt 65 84 = some (ra 84 86 (.lload 4) 4 0 0) := ch65_0 (j := 37) rfl
theorem r65_86 : rowAt 65 86 = some (r0 86 87 (.lneg)) := ch65_0 (j := 38) rfl
theorem r65_87 : rowAt 65 87 = some (ra 87 90 (.goto 5) 92 0 0) := ch65_0 (j := 39) rfl
theorem r65_90 : rowAt 65 90 = some (ra 90 92 (.lload 4) 4 0 0) := ch65_0 (j := 40) rfl
theorem r65_92 : rowAt 65 92 = some (ra 92 94 (.iload 6) 6 0 0) := ch65_0 (j := 41) rfl
theorem r65_94 : rowAt 65 94 = some (r0 94 95 (.lshl)) := ch65_0 (j := 42) rfl
theorem r65_95 : rowAt 65 95 = some (ra 95 97 (.lstore 7) 7 0 0) := ch65_0 (j := 43) rfl
theorem r65_97 : rowAt 65 97 = some (ra 97 98 (.iload_n 3) 3 0 0) := ch65_0 (j := 44) rfl
theorem r65_98 : rowAt 65 98 = some (ra 98 101 (.ifCond .eq 11) 109 0 0) := ch65_0 (j := 45) rfl
theorem r65_101 : rowAt 65 101 = some (ra 101 103 (.lload 7) 7 0 0) := ch65_0 (j := 46) rfl
theorem r65_103 : rowAt 65 103 = some (ra 103 105 (.iload 6) 6 0 0) := ch65_0 (j := 47) rfl
theorem r65_105 : rowAt 65 105 = some (r0 105 106 (.lshr)) := ch65_0 (j := 48) rfl
theorem r65_106 : rowAt 65 106 = some (ra 106 109 (.goto 8) 114 0 0) := ch65_0 (j := 49) rfl
theorem r65_109 : rowAt 65 109 = some (ra 109 111 (.lload 7) 7 0 0) := ch65_0 (j := 50) rfl
theorem r65_111 : rowAt 65 111 = some (ra 111 113 (.iload 6) 6 0 0) := ch65_0 (j := 51) rfl
theorem r65_113 : rowAt 65 113 = some (r0 113 114 (.lushr)) := ch65_0 (j := 52) rfl
theorem r65_114 : rowAt 65 114 = some (r0 114 115 (.lreturn)) := ch65_0 (j := 53) rfl
theorem b65_0 {d : Nat} {q : Rs} {x0 : Nat} {x1 : Int32} {x2 : Int32} {x3 : Int32} {σ : St} {σ2 : St}  (h1 : x0 < 24 ∧ kls x0 = 4)
    (hy : Er d 49 (0, ent 49 [.ref x0, .int x1], [], σ) (.inl none, σ2, 0))
    (k : Er (d + 1) 65 (5, [some (.ref x0), some (.int x1), some (.int x2), some (.int x3), none, none, none, none, none], [], σ2) q) :
    Er (d + 1) 65 (0, [some (.ref x0), some (.int x1), some (.int x2), some (.int x3), none, none, none, none, none], [], σ) q := Er.sT (c2 := (1, [some (.ref x0), some (.int x1), some (.int x2), some (.int x3), none, none, none, none, none], [.ref x0], σ)) r65_0 rfl rfl <| Er.sT (c2 := (2, [some (.ref x0), some (.int x1), some (.int x2), some (.int x3), none, none, none, none, none], [.int x1, .ref x0], σ)) r65_1 rfl rfl <| (Er.call (vs := [.ref x0, .int x1]) (rest := []) r65_2 rfl rfl (Nat.le_of_ble_eq_true rfl) (Nat.le_of_ble_eq_true rfl) (fun _ => ⟨_, _, rfl, h1⟩) hy k)
theorem b65_0x {d x c9 : Nat} {x0 : Nat} {x1 : Int32} {x2 : Int32} {x3 : Int32} {σ : St} {σ2 : St} (h1 : x0 < 24 ∧ kls x0 = 4) (hx : x < 4)
    (hy : Er d 49 (0, ent 49 [.ref x0, .int x1], [], σ) (.inr x, σ2, c9)) :
    Er (d + 1) 65 (0, [some (.ref x0), some (.int x1), some (.int x2), some (.int x3), none, none, none, none, none], [], σ) (.inr x, σ2, c9) := Er.sT (c2 := (1, [some (.ref x0), some (.int x1), some (.int x2), some (.int x3), none, none, none, none, none], [.ref x0], σ)) r65_0 rfl rfl <| Er.sT (c2 := (2, [some (.ref x0), some (.int x1), some (.int x2), some (.int x3), none, none, none, none, none], [.int x1, .ref x0], σ)) r65_1 rfl rfl <| (Er.callx (vs := [.ref x0, .int x1]) (rest := []) r65_2 rfl rfl (Nat.le_of_ble_eq_true rfl) (Nat.le_of_ble_eq_true rfl) (fun _ => ⟨_, _, rfl, h1⟩) hx rfl rfl hy)
theorem b65_5 {d : Nat} {q : Rs} {x0 : Nat} {x1 : Int32} {x2 : Int32} {x3 : Int32} {σ : St} 
    (kt : x2 < (1 : Int32) → Er (d + 1) 65 (16, [some (.ref x0), some (.int x1), some (.int x2), some (.int x3), none, none, none, none, none], [], σ) q)
    (kf : ¬ x2 < (1 : Int32) → Er (d + 1) 65 (10, [some (.ref x0), some (.int x1), some (.int x2), some (.int x3), none, none, none, none, none], [], σ) q) :
    Er (d + 1) 65 (5, [some (.ref x0), some (.int x1), some (.int x2), some (.int x3), none, none, none, none, none], [], σ) q := Er.sT (c2 := (6, [some (.ref x0), some (.int x1), some (.int x2), some (.int x3), none, none, none, none, none], [.int x2], σ)) r65_5 rfl rfl <| Er.sT (c2 := (7, [some (.ref x0), some (.int x1), some (.int x2), some (.int x3), none, none, none, none, none], [.int (1 : Int32), .int x2], σ)) r65_6 rfl rfl <| Er.sT (c2 := (brn .lt x2 (1 : Int32) 16 10, [some (.ref x0), some (.int x1), some (.int x2), some (.int x3), none, none, none, none, none], [], σ)) r65_7 rfl rfl <| (br_lt kt kf)
theorem b65_10 {d : Nat} {q : Rs} {x0 : Nat} {x1 : Int32} {x2 : Int32} {x3 : Int32} {σ : St} 
    (kt : x2 ≤ (64 : Int32) → Er (d + 1) 65 (26, [some (.ref x0), some (.int x1), some (.int x2), some (.int x3), none, none, none, none, none], [], σ) q)
    (kf : ¬ x2 ≤ (64 : Int32) → Er (d + 1) 65 (16, [some (.ref x0), some (.int x1), some (.int x2), some (.int x3), none, none, none, none, none], [], σ) q) :
    Er (d + 1) 65 (10, [some (.ref x0), some (.int x1), some (.int x2), some (.int x3), none, none, none, none, none], [], σ) q := Er.sT (c2 := (11, [some (.ref x0), some (.int x1), some (.int x2), some (.int x3), none, none, none, none, none], [.int x2], σ)) r65_10 rfl rfl <| Er.sT (c2 := (13, [some (.ref x0), some (.int x1), some (.int x2), some (.int x3), none, none, none, none, none], [.int (64 : Int32), .int x2], σ)) r65_11 rfl rfl <| Er.sT (c2 := (brn .le x2 (64 : Int32) 26 16, [some (.ref x0), some (.int x1), some (.int x2), some (.int x3), none, none, none, none, none], [], σ)) r65_13 rfl rfl <| (br_le kt kf)
theorem b65_16 {d : Nat} {x0 : Nat} {x1 : Int32} {x2 : Int32} {x3 : Int32} {σ : St}  :
    Er (d + 6) 65 (16, [some (.ref x0), some (.int x1), some (.int x2), some (.int x3), none, none, none, none, none], [], σ) (.inr 1, σ, 1) := (Er.thr r65_16 rfl rfl)
theorem b65_26 {d : Nat} {q : Rs} {x0 : Nat} {x1 : Int32} {x2 : Int32} {x3 : Int32} {σ : St} {σ2 : St}  (h1 : x0 < 24 ∧ kls x0 = 4)
    (hy : Er d 50 (0, ent 50 [.ref x0, .int x1, .ref (fr x0 3)], [], σ) (.inl none, σ2, 0))
    (k : Er (d + 1) 65 (35, [some (.ref x0), some (.int x1), some (.int x2), some (.int x3), none, none, none, none, none], [], σ2) q) :
    Er (d + 1) 65 (26, [some (.ref x0), some (.int x1), some (.int x2), some (.int x3), none, none, none, none, none], [], σ) q := Er.sT (c2 := (27, [some (.ref x0), some (.int x1), some (.int x2), some (.int x3), none, none, none, none, none], [.ref x0], σ)) r65_26 rfl rfl <| Er.sT (c2 := (28, [some (.ref x0), some (.int x1), some (.int x2), some (.int x3), none, none, none, none, none], [.int x1, .ref x0], σ)) r65_27 rfl rfl <| Er.sT (c2 := (29, [some (.ref x0), some (.int x1), some (.int x2), some (.int x3), none, none, none, none, none], [.ref x0, .int x1, .ref x0], σ)) r65_28 rfl rfl <| Er.st (P := (x0 < 24 ∧ kls x0 = 4)) (c2 := (32, [some (.ref x0), some (.int x1), some (.int x2), some (.int x3), none, none, none, none, none], [.ref (fr x0 3), .int x1, .ref x0], σ)) r65_29 rfl rfl h1 <| (Er.call (vs := [.ref x0, .int x1, .ref (fr x0 3)]) (rest := []) r65_32 rfl rfl (Nat.le_of_ble_eq_true rfl) (Nat.le_of_ble_eq_true rfl) (fun _ => ⟨_, _, rfl, h1⟩) hy k)
theorem b65_35 {d : Nat} {q : Rs} {x0 : Nat} {x1 : Int32} {x2 : Int32} {x3 : Int32} {σ : St} {σ2 : St}  (h1 : x0 < 24 ∧ kls x0 = 4) (h2 : (fr x0 3) < 24 ∧ kls (fr x0 3) = 3) (h3 : (fr x0 8) < 24 ∧ kls (fr x0 8) = 1)
    (hy : Er d 6 (0, ent 6 [.ref (fr x0 8), .ref (fr (fr x0 3) 0), .ref (fr (fr x0 3) 1)], [], σ) (.inl none, σ2, 0))
    (k : Er (d + 1) 65 (56, [some (.ref x0), some (.int x1), some (.int x2), some (.int x3), none, none, none, none, none], [], σ2) q) :
    Er (d + 1) 65 (35, [some (.ref x0), some (.int x1), some (.int x2), some (.int x3), none, none, none, none, none], [], σ) q := Er.sT (c2 := (36, [some (.ref x0), some (.int x1), some (.int x2), some (.int x3), none, none, none, none, none], [.ref x0], σ)) r65_35 rfl rfl <| Er.st (P := (x0 < 24 ∧ kls x0 = 4)) (c2 := (39, [some (.ref x0), some (.int x1), some (.int x2), some (.int x3), none, none, none, none, none], [.ref (fr x0 8)], σ)) r65_36 rfl rfl h1 <| Er.sT (c2 := (40, [some (.ref x0), some (.int x1), some (.int x2), some (.int x3), none, none, none, none, none], [.ref x0, .ref (fr x0 8)], σ)) r65_39 rfl rfl <| Er.st (P := (x0 < 24 ∧ kls x0 = 4)) (c2 := (43, [some (.ref x0), some (.int x1), some (.int x2), some (.int x3), none, none, none, none, none], [.ref (fr x0 3), .ref (fr x0 8)], σ)) r65_40 rfl rfl h1 <| Er.st (P := ((fr x0 3) < 24 ∧ kls (fr x0 3) = 3)) (c2 := (46, [some (.ref x0), some (.int x1), some (.int x2), some (.int x3), none, none, none, none, none], [.ref (fr (fr x0 3) 0), .ref (fr x0 8)], σ)) r65_43 rfl rfl h2 <| Er.sT (c2 := (47, [some (.ref x0), some (.int x1), some (.int x2), some (.int x3), none, none, none, none, none], [.ref x0, .ref (fr (fr x0 3) 0), .ref (fr x0 8)], σ)) r65_46 rfl rfl <| Er.st (P := (x0 < 24 ∧ kls x0 = 4)) (c2 := (50, [some (.ref x0), some (.int x1), some (.int x2), some (.int x3), none, none, none, none, none], [.ref (fr x0 3), .ref (fr (fr x0 3) 0), .ref (fr x0 8)], σ)) r65_47 rfl rfl h1 <| Er.st (P := ((fr x0 3) < 24 ∧ kls (fr x0 3) = 3)) (c2 := (53, [some (.ref x0), some (.int x1), some (.int x2), some (.int x3), none, none, none, none, none], [.ref (fr (fr x0 3) 1), .ref (fr (fr x0 3) 0), .ref (fr x0 8)], σ)) r65_50 rfl rfl h2 <| (Er.call (vs := [.ref (fr x0 8), .ref (fr (fr x0 3) 0), .ref (fr (fr x0 3) 1)]) (rest := []) r65_53 rfl rfl (Nat.le_of_ble_eq_true rfl) (Nat.le_of_ble_eq_true rfl) (fun _ => ⟨_, _, rfl, h3⟩) hy k)
theorem b65_56 {d : Nat} {q : Rs} {x0 : Nat} {x1 : Int32} {x2 : Int32} {x3 : Int32} {σ : St} {σ2 : St} {r : Int64} (h1 : x0 < 24 ∧ kls x0 = 4) (h2 : (fr x0 8) < 24 ∧ kls (fr x0 8) = 1) (h3 : (fr (fr x0 8) 0) < 24 ∧ kls (fr (fr x0 8) 0) = 2)
    (hy : Er d 24 (0, ent 24 [.ref (fr (fr x0 8) 0)], [], σ) (.inl (some (.long r)), σ2, 0))
    (k : Er (d + 1) 65 (66, [some (.ref x0), some (.int x1), some (.int x2), some (.int x3), none, none, none, none, none], [.long r], σ2) q) :
    Er (d + 1) 65 (56, [some (.ref x0), some (.int x1), some (.int x2), some (.int x3), none, none, none, none, none], [], σ) q := Er.sT (c2 := (57, [some (.ref x0), some (.int x1), some (.int x2), some (.int x3), none, none, none, none, none], [.ref x0], σ)) r65_56 rfl rfl <| Er.st (P := (x0 < 24 ∧ kls x0 = 4)) (c2 := (60, [some (.ref x0), some (.int x1), some (.int x2), some (.int x3), none, none, none, none, none], [.ref (fr x0 8)], σ)) r65_57 rfl rfl h1 <| Er.st (P := ((fr x0 8) < 24 ∧ kls (fr x0 8) = 1)) (c2 := (63, [some (.ref x0), some (.int x1), some (.int x2), some (.int x3), none, none, none, none, none], [.ref (fr (fr x0 8) 0)], σ)) r65_60 rfl rfl h2 <| (Er.call (vs := [.ref (fr (fr x0 8) 0)]) (rest := []) r65_63 rfl rfl (Nat.le_of_ble_eq_true rfl) (Nat.le_of_ble_eq_true rfl) (fun _ => ⟨_, _, rfl, h3⟩) hy k)
theorem b65_66 {d : Nat} {q : Rs} {x0 : Nat} {x1 : Int32} {x2 : Int32} {x3 : Int32} {s0 : Int64} {σ : St} (h1 : x0 < 24 ∧ kls x0 = 4) (h2 : (fr x0 3) < 24 ∧ kls (fr x0 3) = 3)
    (kt : (0 : Int32) ≤ (gfi σ (fr x0 3) 2) → Er (d + 1) 65 (90, [some (.ref x0), some (.int x1), some (.int x2), some (.int x3), some (.long s0), none, some (.int ((64 : Int32) - x2)), none, none], [], σ) q)
    (kf : ¬ (0 : Int32) ≤ (gfi σ (fr x0 3) 2) → Er (d + 1) 65 (84, [some (.ref x0), some (.int x1), some (.int x2), some (.int x3), some (.long s0), none, some (.int ((64 : Int32) - x2)), none, none], [], σ) q) :
    Er (d + 1) 65 (66, [some (.ref x0), some (.int x1), some (.int x2), some (.int x3), none, none, none, none, none], [.long s0], σ) q := Er.sT (c2 := (68, [some (.ref x0), some (.int x1), some (.int x2), some (.int x3), some (.long s0), none, none, none, none], [], σ)) r65_66 rfl rfl <| Er.sT (c2 := (70, [some (.ref x0), some (.int x1), some (.int x2), some (.int x3), some (.long s0), none, none, none, none], [.int (64 : Int32)], σ)) r65_68 rfl rfl <| Er.sT (c2 := (71, [some (.ref x0), some (.int x1), some (.int x2), some (.int x3), some (.long s0), none, none, none, none], [.int x2, .int (64 : Int32)], σ)) r65_70 rfl rfl <| Er.sT (c2 := (72, [some (.ref x0), some (.int x1), some (.int x2), some (.int x3), some (.long s0), none, none, none, none], [.int ((64 : Int32) - x2)], σ)) r65_71 rfl rfl <| Er.sT (c2 := (74, [some (.ref x0), some (.int x1), some (.int x2), some (.int x3), some (.long s0), none, some (.int ((64 : Int32) - x2)), none, none], [], σ)) r65_72 rfl rfl <| Er.sT (c2 := (75, [some (.ref x0), some (.int x1), some (.int x2), some (.int x3), some (.long s0), none, some (.int ((64 : Int32) - x2)), none, none], [.ref x0], σ)) r65_74 rfl rfl <| Er.st (P := (x0 < 24 ∧ kls x0 = 4)) (c2 := (78, [some (.ref x0), some (.int x1), some (.int x2), some (.int x3), some (.long s0), none, some (.int ((64 : Int32) - x2)), none, none], [.ref (fr x0 3)], σ)) r65_75 rfl rfl h1 <| Er.st (P := ((fr x0 3) < 24 ∧ kls (fr x0 3) = 3)) (c2 := (81, [some (.ref x0), some (.int x1), some (.int x2), some (.int x3), some (.long s0), none, some (.int ((64 : Int32) - x2)), none, none], [.int (gfi σ (fr x0 3) 2)], σ)) r65_78 rfl rfl h2 <| Er.sT (c2 := (brn .ge (gfi σ (fr x0 3) 2) (0 : Int32) 90 84, [some (.ref x0), some (.int x1), some (.int x2), some (.int x3), some (.long s0), none, some (.int ((64 : Int32) - x2)), none, none], [], σ)) r65_81 rfl rfl <| (br_ge kt kf)
theorem b65_84 {d : Nat} {q : Rs} {x0 : Nat} {x1 : Int32} {x2 : Int32} {x3 : Int32} {x4 : Int64} {x6 : Int32} {σ : St} 
    (k : Er (d + 1) 65 (92, [some (.ref x0), some (.int x1), some (.int x2), some (.int x3), some (.long x4), none, some (.int x6), none, none], [.long (-x4)], σ) q) :
    Er (d + 1) 65 (84, [some (.ref x0), some (.int x1), some (.int x2), some (.int x3), some (.long x4), none, some (.int x6), none, none], [], σ) q := Er.sT (c2 := (86, [some (.ref x0), some (.int x1), some (.int x2), some (.int x3), some (.long x4), none, some (.int x6), none, none], [.long x4], σ)) r65_84 rfl rfl <| Er.sT (c2 := (87, [some (.ref x0), some (.int x1), some (.int x2), some (.int x3), some (.long x4), none, some (.int x6), none, none], [.long (-x4)], σ)) r65_86 rfl rfl <| Er.sT (c2 := (92, [some (.ref x0), some (.int x1), some (.int x2), some (.int x3), some (.long x4), none, some (.int x6), none, none], [.long (-x4)], σ)) r65_87 rfl rfl <| k
theorem b65_90 {d : Nat} {q : Rs} {x0 : Nat} {x1 : Int32} {x2 : Int32} {x3 : Int32} {x4 : Int64} {x6 : Int32} {σ : St} 
    (k : Er (d + 1) 65 (92, [some (.ref x0), some (.int x1), some (.int x2), some (.int x3), some (.long x4), none, some (.int x6), none, none], [.long x4], σ) q) :
    Er (d + 1) 65 (90, [some (.ref x0), some (.int x1), some (.int x2), some (.int x3), some (.long x4), none, some (.int x6), none, none], [], σ) q := Er.sT (c2 := (92, [some (.ref x0), some (.int x1), some (.int x2), some (.int x3), some (.long x4), none, some (.int x6), none, none], [.long x4], σ)) r65_90 rfl rfl <| k
theorem b65_92 {d : Nat} {q : Rs} {x0 : Nat} {x1 : Int32} {x2 : Int32} {x3 : Int32} {x4 : Int64} {x6 : Int32} {s0 : Int64} {σ : St} 
    (kt : x3 = (0 : Int32) → Er (d + 1) 65 (109, [some (.ref x0), some (.int x1), some (.int x2), some (.int x3), some (.long x4), none, some (.int x6), some (.long (s0 <<< (x6.toInt64 &&& 63))), none], [], σ) q)
    (kf : ¬ x3 = (0 : Int32) → Er (d + 1) 65 (101, [some (.ref x0), some (.int x1), some (.int x2), some (.int x3), some (.long x4), none, some (.int x6), some (.long (s0 <<< (x6.toInt64 &&& 63))), none], [], σ) q) :
    Er (d + 1) 65 (92, [some (.ref x0), some (.int x1), some (.int x2), some (.int x3), some (.long x4), none, some (.int x6), none, none], [.long s0], σ) q := Er.sT (c2 := (94, [some (.ref x0), some (.int x1), some (.int x2), some (.int x3), some (.long x4), none, some (.int x6), none, none], [.int x6, .long s0], σ)) r65_92 rfl rfl <| Er.sT (c2 := (95, [some (.ref x0), some (.int x1), some (.int x2), some (.int x3), some (.long x4), none, some (.int x6), none, none], [.long (s0 <<< (x6.toInt64 &&& 63))], σ)) r65_94 rfl rfl <| Er.sT (c2 := (97, [some (.ref x0), some (.int x1), some (.int x2), some (.int x3), some (.long x4), none, some (.int x6), some (.long (s0 <<< (x6.toInt64 &&& 63))), none], [], σ)) r65_95 rfl rfl <| Er.sT (c2 := (98, [some (.ref x0), some (.int x1), some (.int x2), some (.int x3), some (.long x4), none, some (.int x6), some (.long (s0 <<< (x6.toInt64 &&& 63))), none], [.int x3], σ)) r65_97 rfl rfl <| Er.sT (c2 := (brn .eq x3 (0 : Int32) 109 101, [some (.ref x0), some (.int x1), some (.int x2), some (.int x3), some (.long x4), none, some (.int x6), some (.long (s0 <<< (x6.toInt64 &&& 63))), none], [], σ)) r65_98 rfl rfl <| (br_eq kt kf)
theorem b65_101 {d : Nat} {q : Rs} {x0 : Nat} {x1 : Int32} {x2 : Int32} {x3 : Int32} {x4 : Int64} {x6 : Int32} {x7 : Int64} {σ : St} 
    (k : Er (d + 1) 65 (114, [some (.ref x0), some (.int x1), some (.int x2), some (.int x3), some (.long x4), none, some (.int x6), some (.long x7), none], [.long (x7 >>> (x6.toInt64 &&& 63))], σ) q) :
    Er (d + 1) 65 (101, [some (.ref x0), some (.int x1), some (.int x2), some (.int x3), some (.long x4), none, some (.int x6), some (.long x7), none], [], σ) q := Er.sT (c2 := (103, [some (.ref x0), some (.int x1), some (.int x2), some (.int x3), some (.long x4), none, some (.int x6), some (.long x7), none], [.long x7], σ)) r65_101 rfl rfl <| Er.sT (c2 := (105, [some (.ref x0), some (.int x1), some (.int x2), some (.int x3), some (.long x4), none, some (.int x6), some (.long x7), none], [.int x6, .long x7], σ)) r65_103 rfl rfl <| Er.sT (c2 := (106, [some (.ref x0), some (.int x1), some (.int x2), some (.int x3), some (.long x4), none, some (.int x6), some (.long x7), none], [.long (x7 >>> (x6.toInt64 &&& 63))], σ)) r65_105 rfl rfl <| Er.sT (c2 := (114, [some (.ref x0), some (.int x1), some (.int x2), some (.int x3), some (.long x4), none, some (.int x6), some (.long x7), none], [.long (x7 >>> (x6.toInt64 &&& 63))], σ)) r65_106 rfl rfl <| k
theorem b65_109 {d : Nat} {q : Rs} {x0 : Nat} {x1 : Int32} {x2 : Int32} {x3 : Int32} {x4 : Int64} {x6 : Int32} {x7 : Int64} {σ : St} 
    (k : Er (d + 1) 65 (114, [some (.ref x0), some (.int x1), some (.int x2), some (.int x3), some (.long x4), none, some (.int x6), some (.long x7), none], [.long ((x7.toUInt64 >>> (x6.toInt64.toUInt64 &&& Int64.toUInt64 63)).toInt64)], σ) q) :
    Er (d + 1) 65 (109, [some (.ref x0), some (.int x1), some (.int x2), some (.int x3), some (.long x4), none, some (.int x6), some (.long x7), none], [], σ) q := Er.sT (c2 := (111, [some (.ref x0), some (.int x1), some (.int x2), some (.int x3), some (.long x4), none, some (.int x6), some (.long x7), none], [.long x7], σ)) r65_109 rfl rfl <| Er.sT (c2 := (113, [some (.ref x0), some (.int x1), some (.int x2), some (.int x3), some (.long x4), none, some (.int x6), some (.long x7), none], [.int x6, .long x7], σ)) r65_111 rfl rfl <| Er.sT (c2 := (114, [some (.ref x0), some (.int x1), some (.int x2), some (.int x3), some (.long x4), none, some (.int x6), some (.long x7), none], [.long ((x7.toUInt64 >>> (x6.toInt64.toUInt64 &&& Int64.toUInt64 63)).toInt64)], σ)) r65_113 rfl rfl <| k
theorem b65_114 {d : Nat} {x0 : Nat} {x1 : Int32} {x2 : Int32} {x3 : Int32} {x4 : Int64} {x6 : Int32} {x7 : Int64} {s0 : Int64} {σ : St}  :
    Er (d + 1) 65 (114, [some (.ref x0), some (.int x1), some (.int x2), some (.int x3), some (.long x4), none, some (.int x6), some (.long x7), none], [.long s0], σ) (.inl (some (.long s0)), σ, 0) := (Er.ret r65_114 rfl ⟨_, rfl, rfl, rfl⟩)
/-! NumberModels.order(II)I -/
theorem tab_66 : tab 66 = tb66_0 := rfl
theorem ch66_0 {j : Nat} {r : Row} (h : tb66_0[j]? = some r) : rowAt 66 r.1 = some r := row_mem 66 (by decide) (by rw [tab_66]; exact List.mem_of_getElem? h)
theorem r66_0 : rowAt 66 0 = some (r0 0 1 (.aload_n 0)) := ch66_0 (j := 0) rfl
theorem r66_1 : rowAt 66 1 = some (ra 1 2 (.iload_n 1) 1 0 0) := ch66_0 (j := 1) rfl
theorem r66_2 : rowAt 66 2 = some (ra 2 5 (.invokevirtual 123) 49 2 556) := ch66_0 (j := 2) rfl
theorem r66_5 : rowAt 66 5 = some (r0 5 6 (.aload_n 0)) := ch66_0 (j := 3) rfl
theorem r66_6 : rowAt 66 6 = some (ra 6 7 (.iload_n 2) 2 0 0) := ch66_0 (j := 4) rfl
theorem r66_7 : rowAt 66 7 = some (ra 7 10 (.invokevirtual 123) 49 2 556) := ch66_0 (j := 5) rfl
theorem r66_10 : rowAt 66 10 = some (r0 10 11 (.aload_n 0)) := ch66_0 (j := 6) rfl
theorem r66_11 : rowAt 66 11 = some (ra 11 12 (.iload_n 1) 1 0 0) := ch66_0 (j := 7) rfl
theorem r66_12 : rowAt 66 12 = some (r0 12 13 (.aload_n 0)) := ch66_0 (j := 8) rfl
theorem r66_13 : rowAt 66 13 = some (ra 13 16 (.getfield 20) 3 4 193) := ch66_0 (j := 9) rfl
theorem r66_16 : rowAt 66 16 = some (ra 16 19 (.invokevirtual 126) 50 3 576) := ch66_0 (j := 10) rfl
theorem r66_19 : rowAt 66 19 = some (r0 19 20 (.aload_n 0)) := ch66_0 (j := 11) rfl
theorem r66_20 : rowAt 66 20 = some (ra 20 21 (.iload_n 2) 2 0 0) := ch66_0 (j := 12) rfl
theorem r66_21 : rowAt 66 21 = some (r0 21 22 (.aload_n 0)) := ch66_0 (j := 13) rfl
theorem r66_22 : rowAt 66 22 = some (ra 22 25 (.getfield 24) 4 4 194) := ch66_0 (j := 14) rfl
theorem r66_25 : rowAt 66 25 = some (ra 25 28 (.invokevirtual 126) 50 3 576) := ch66_0 (j := 15) rfl
theorem r66_28 : rowAt 66 28 = some (r0 28 29 (.aload_n 0)) := ch66_0 (j := 16) rfl
theorem r66_29 : rowAt 66 29 = some (ra 29 32 (.invokevirtual 163) 61 1 677) := ch66_0 (j := 17) rfl
theorem r66_32 : rowAt 66 32 = some (r0 32 33 (.ireturn)) := ch66_0 (j := 18) rfl
theorem b66_0 {d : Nat} {q : Rs} {x0 : Nat} {x1 : Int32} {x2 : Int32} {σ : St} {σ2 : St}  (h1 : x0 < 24 ∧ kls x0 = 4)
    (hy : Er d 49 (0, ent 49 [.ref x0, .int x1], [], σ) (.inl none, σ2, 0))
    (k : Er (d + 1) 66 (5, [some (.ref x0), some (.int x1), some (.int x2)], [], σ2) q) :
    Er (d + 1) 66 (0, [some (.ref x0), some (.int x1), some (.int x2)], [], σ) q := Er.sT (c2 := (1, [some (.ref x0), some (.int x1), some (.int x2)], [.ref x0], σ)) r66_0 rfl rfl <| Er.sT (c2 := (2, [some (.ref x0), some (.int x1), some (.int x2)], [.int x1, .ref x0], σ)) r66_1 rfl rfl <| (Er.call (vs := [.ref x0, .int x1]) (rest := []) r66_2 rfl rfl (Nat.le_of_ble_eq_true rfl) (Nat.le_of_ble_eq_true rfl) (fun _ => ⟨_, _, rfl, h1⟩) hy k)
theorem b66_0x {d x c9 : Nat} {x0 : Nat} {x1 : Int32} {x2 : Int32} {σ : St} {σ2 : St} (h1 : x0 < 24 ∧ kls x0 = 4) (hx : x < 4)
    (hy : Er d 49 (0, ent 49 [.ref x0, .int x1], [], σ) (.inr x, σ2, c9)) :
    Er (d + 1) 66 (0, [some (.ref x0), some (.int x1), some (.int x2)], [], σ) (.inr x, σ2, c9) := Er.sT (c2 := (1, [some (.ref x0), some (.int x1), some (.int x2)], [.ref x0], σ)) r66_0 rfl rfl <| Er.sT (c2 := (2, [some (.ref x0), some (.int x1), some (.int x2)], [.int x1, .ref x0], σ)) r66_1 rfl rfl <| (Er.callx (vs := [.ref x0, .int x1]) (rest := []) r66_2 rfl rfl (Nat.le_of_ble_eq_true rfl) (Nat.le_of_ble_eq_true rfl) (fun _ => ⟨_, _, rfl, h1⟩) hx rfl rfl hy)
theorem b66_5 {d : Nat} {q : Rs} {x0 : Nat} {x1 : Int32} {x2 : Int32} {σ : St} {σ2 : St}  (h1 : x0 < 24 ∧ kls x0 = 4)
    (hy : Er d 49 (0, ent 49 [.ref x0, .int x2], [], σ) (.inl none, σ2, 0))
    (k : Er (d + 1) 66 (10, [some (.ref x0), some (.int x1), some (.int x2)], [], σ2) q) :
    Er (d + 1) 66 (5, [some (.ref x0), some (.int x1), some (.int x2)], [], σ) q := Er.sT (c2 := (6, [some (.ref x0), some (.int x1), some (.int x2)], [.ref x0], σ)) r66_5 rfl rfl <| Er.sT (c2 := (7, [some (.ref x0), some (.int x1), some (.int x2)], [.int x2, .ref x0], σ)) r66_6 rfl rfl <| (Er.call (vs := [.ref x0, .int x2]) (rest := []) r66_7 rfl rfl (Nat.le_of_ble_eq_true rfl) (Nat.le_of_ble_eq_true rfl) (fun _ => ⟨_, _, rfl, h1⟩) hy k)
theorem b66_5x {d x c9 : Nat} {x0 : Nat} {x1 : Int32} {x2 : Int32} {σ : St} {σ2 : St} (h1 : x0 < 24 ∧ kls x0 = 4) (hx : x < 4)
    (hy : Er d 49 (0, ent 49 [.ref x0, .int x2], [], σ) (.inr x, σ2, c9)) :
    Er (d + 1) 66 (5, [some (.ref x0), some (.int x1), some (.int x2)], [], σ) (.inr x, σ2, c9) := Er.sT (c2 := (6, [some (.ref x0), some (.int x1), some (.int x2)], [.ref x0], σ)) r66_5 rfl rfl <| Er.sT (c2 := (7, [some (.ref x0), some (.int x1), some (.int x2)], [.int x2, .ref x0], σ)) r66_6 rfl rfl <| (Er.callx (vs := [.ref x0, .int x2]) (rest := []) r66_7 rfl rfl (Nat.le_of_ble_eq_true rfl) (Nat.le_of_ble_eq_true rfl) (fun _ => ⟨_, _, rfl, h1⟩) hx rfl rfl hy)
theorem b66_10 {d : Nat} {q : Rs} {x0 : Nat} {x1 : Int32} {x2 : Int32} {σ : St} {σ2 : St}  (h1 : x0 < 24 ∧ kls x0 = 4)
    (hy : Er d 50 (0, ent 50 [.ref x0, .int x1, .ref (fr x0 3)], [], σ) (.inl none, σ2, 0))
    (k : Er (d + 1) 66 (19, [some (.ref x0), some (.int x1), some (.int x2)], [], σ2) q) :
    Er (d + 1) 66 (10, [some (.ref x0), some (.int x1), some (.int x2)], [], σ) q := Er.sT (c2 := (11, [some (.ref x0), some (.int x1), some (.int x2)], [.ref x0], σ)) r66_10 rfl rfl <| Er.sT (c2 := (12, [some (.ref x0), some (.int x1), some (.int x2)], [.int x1, .ref x0], σ)) r66_11 rfl rfl <| Er.sT (c2 := (13, [some (.ref x0), some (.int x1), some (.int x2)], [.ref x0, .int x1, .ref x0], σ)) r66_12 rfl rfl <| Er.st (P := (x0 < 24 ∧ kls x0 = 4)) (c2 := (16, [some (.ref x0), some (.int x1), some (.int x2)], [.ref (fr x0 3), .int x1, .ref x0], σ)) r66_13 rfl rfl h1 <| (Er.call (vs := [.ref x0, .int x1, .ref (fr x0 3)]) (rest := []) r66_16 rfl rfl (Nat.le_of_ble_eq_true rfl) (Nat.le_of_ble_eq_true rfl) (fun _ => ⟨_, _, rfl, h1⟩) hy k)
theorem b66_19 {d : Nat} {q : Rs} {x0 : Nat} {x1 : Int32} {x2 : Int32} {σ : St} {σ2 : St}  (h1 : x0 < 24 ∧ kls x0 = 4)
    (hy : Er d 50 (0, ent 50 [.ref x0, .int x2, .ref (fr x0 4)], [], σ) (.inl none, σ2, 0))
    (k : Er (d + 1) 66 (28, [some (.ref x0), some (.int x1), some (.int x2)], [], σ2) q) :
    Er (d + 1) 66 (19, [some (.ref x0), some (.int x1), some (.int x2)], [], σ) q := Er.sT (c2 := (20, [some (.ref x0), some (.int x1), some (.int x2)], [.ref x0], σ)) r66_19 rfl rfl <| Er.sT (c2 := (21, [some (.ref x0), some (.int x1), some (.int x2)], [.int x2, .ref x0], σ)) r66_20 rfl rfl <| Er.sT (c2 := (22, [some (.ref x0), some (.int x1), some (.int x2)], [.ref x0, .int x2, .ref x0], σ)) r66_21 rfl rfl <| Er.st (P := (x0 < 24 ∧ kls x0 = 4)) (c2 := (25, [some (.ref x0), some (.int x1), some (.int x2)], [.ref (fr x0 4), .int x2, .ref x0], σ)) r66_22 rfl rfl h1 <| (Er.call (vs := [.ref x0, .int x2, .ref (fr x0 4)]) (rest := []) r66_25 rfl rfl (Nat.le_of_ble_eq_true rfl) (Nat.le_of_ble_eq_true rfl) (fun _ => ⟨_, _, rfl, h1⟩) hy k)
theorem b66_28 {d : Nat} {q : Rs} {x0 : Nat} {x1 : Int32} {x2 : Int32} {σ : St} {σ2 : St} {r : Int32} (h1 : x0 < 24 ∧ kls x0 = 4)
    (hy : Er d 61 (0, ent 61 [.ref x0], [], σ) (.inl (some (.int r)), σ2, 0))
    (k : Er (d + 1) 66 (32, [some (.ref x0), some (.int x1), some (.int x2)], [.int r], σ2) q) :
    Er (d + 1) 66 (28, [some (.ref x0), some (.int x1), some (.int x2)], [], σ) q := Er.sT (c2 := (29, [some (.ref x0), some (.int x1), some (.int x2)], [.ref x0], σ)) r66_28 rfl rfl <| (Er.call (vs := [.ref x0]) (rest := []) r66_29 rfl rfl (Nat.le_of_ble_eq_true rfl) (Nat.le_of_ble_eq_true rfl) (fun _ => ⟨_, _, rfl, h1⟩) hy k)
theorem b66_32 {d : Nat} {x0 : Nat} {x1 : Int32} {x2 : Int32} {s0 : Int32} {σ : St}  :
    Er (d + 1) 66 (32, [some (.ref x0), some (.int x1), some (.int x2)], [.int s0], σ) (.inl (some (.int s0)), σ, 0) := (Er.ret r66_32 rfl ⟨_, _, rfl, rfl, rfl, rfl⟩)
/-! NumberModels.meets(IJ)I -/
theorem tab_67 : tab 67 = tb67_0 := rfl
theorem ch67_0 {j : Nat} {r : Row} (h : tb67_0[j]? = some r) : rowAt 67 r.1 = some r := row_mem 67 (by decide) (by rw [tab_67]; exact List.mem_of_getElem? h)
theorem r67_0 : rowAt 67 0 = some (r0 0 1 (.aload_n 0)) := ch67_0 (j := 0) rfl
theorem r67_1 : rowAt 67 1 = some (ra 1 2 (.iload_n 1) 1 0 0) := ch67_0 (j := 1) rfl
theorem r67_2 : rowAt 67 2 = some (ra 2 5 (.invokevirtual 123) 49 2 556) := ch67_0 (j := 2) rfl
theorem r67_5 : rowAt 67 5 = some (ra 5 8 (.getstatic 93) 46 0 494) := ch67_0 (j := 3) rfl
theorem r67_8 : rowAt 67 8 = some (ra 8 9 (.lload_n 2) 2 0 0) := ch67_0 (j := 4) rfl
theorem r67_9 : rowAt 67 9 = some (ra 9 12 (.invokevirtual 166) 147 2 725) := ch67_0 (j := 5) rfl
theorem r67_12 : rowAt 67 12 = some (ra 12 15 (.ifCond .eq 5) 17 0 0) := ch67_0 (j := 6) rfl
theorem r67_15 : rowAt 67 15 = some (15, 16, .iconst 2, 0, 0, 0, 2, 0) := ch67_0 (j := 7) rfl
theorem r67_16 : rowAt 67 16 = some (r0 16 17 (.ireturn)) := ch67_0 (j := 8) rfl
theorem r67_17 : rowAt 67 17 = some (r0 17 18 (.aload_n 0)) := ch67_0 (j := 9) rfl
theorem r67_18 : rowAt 67 18 = some (ra 18 19 (.iload_n 1) 1 0 0) := ch67_0 (j := 10) rfl
theorem r67_19 : rowAt 67 19 = some (r0 19 20 (.aload_n 0)) := ch67_0 (j := 11) rfl
theorem r67_20 : rowAt 67 20 = some (ra 20 23 (.getfield 20) 3 4 193) := ch67_0 (j := 12) rfl
theorem r67_23 : rowAt 67 23 = some (ra 23 26 (.invokevirtual 126) 50 3 576) := ch67_0 (j := 13) rfl
theorem r67_26 : rowAt 67 26 = some (ra 26 29 (.getstatic 93) 46 0 494) := ch67_0 (j := 14) rfl
theorem r67_29 : rowAt 67 29 = some (ra 29 30 (.lload_n 2) 2 0 0) := ch67_0 (j := 15) rfl
theorem r67_30 : rowAt 67 30 = some (ra 30 33 (.invokevirtual 169) 141 2 729) := ch67_0 (j := 16) rfl
theorem r67_33 : rowAt 67 33 = some (r0 33 34 (.lconst 0)) := ch67_0 (j := 17) rfl
theorem r67_34 : rowAt 67 34 = some (r0 34 35 (.lcmp)) := ch67_0 (j := 18) rfl
theorem r67_35 : rowAt 67 35 = some (ra 35 38 (.ifCond .ne 7) 42 0 0) := ch67_0 (j := 19) rfl
theorem r67_38 : rowAt 67 38 = some (r0 38 39 (.iconst 0)) := ch67_0 (j := 20) rfl
theorem r67_39 : rowAt 67 39 = some (ra 39 42 (.goto 10) 49 0 0) := ch67_0 (j := 21) rfl
theorem r67_42 : rowAt 67 42 = some (ra 42 45 (.getstatic 93) 46 0 494) := ch67_0 (j := 22) rfl
theorem r67_45 : rowAt 67 45 = some (ra 45 46 (.lload_n 2) 2 0 0) := ch67_0 (j := 23) rfl
theorem r67_46 : rowAt 67 46 = some (ra 46 49 (.invokevirtual 112) 144 2 514) := ch67_0 (j := 24) rfl
theorem r67_49 : rowAt 67 49 = some (ra 49 51 (.istore 4) 4 0 0) := ch67_0 (j := 25) rfl
theorem r67_51 : rowAt 67 51 = some (r0 51 52 (.aload_n 0)) := ch67_0 (j := 26) rfl
theorem r67_52 : rowAt 67 52 = some (ra 52 55 (.getfield 20) 3 4 193) := ch67_0 (j := 27) rfl
theorem r67_55 : rowAt 67 55 = some (ra 55 58 (.getfield 62) 2 3 126) := ch67_0 (j := 28) rfl
theorem r67_58 : rowAt 67 58 = some (ra 58 60 (.iload 4) 4 0 0) := ch67_0 (j := 29) rfl
theorem r67_60 : rowAt 67 60 = some (ra 60 63 (.if_icmp .eq 18) 78 0 0) := ch67_0 (j := 30) rfl
theorem r67_63 : rowAt 67 63 = some (r0 63 64 (.aload_n 0)) := ch67_0 (j := 31) rfl
theorem r67_64 : rowAt 67 64 = some (ra 64 67 (.getfield 20) 3 4 193) := ch67_0 (j := 32) rfl
theorem r67_67 : rowAt 67 67 = some (ra 67 70 (.getfield 62) 2 3 126) := ch67_0 (j := 33) rfl
theorem r67_70 : rowAt 67 70 = some (r0 70 71 (.i2l)) := ch67_0 (j := 34) rfl
theorem r67_71 : rowAt 67 71 = some (ra 71 73 (.iload 4) 4 0 0) := ch67_0 (j := 35) rfl
theorem r67_73 : rowAt 67 73 = some (r0 73 74 (.i2l)) := ch67_0 (j := 36) rfl
theorem r67_74 : rowAt 67 74 = some (ra 74 77 (.invokestatic 58) 40 2 237) := ch67_0 (j := 37) rfl
theorem r67_77 : rowAt 67 77 = some (r0 77 78 (.ireturn)) := ch67_0 (j := 38) rfl
theorem r67_78 : rowAt 67 78 = some (ra 78 80 (.iload 4) 4 0 0) := ch67_0 (j := 39) rfl
theorem r67_80 : rowAt 67 80 = some (ra 80 83 (.ifCond .ne 7) 87 0 0) := ch67_0 (j := 40) rfl
theorem r67_83 : rowAt 67 83 = some (r0 83 84 (.iconst 0)) := ch67_0 (j := 41) rfl
theorem r67_84 : rowAt 67 84 = some (ra 84 87 (.goto 11) 95 0 0) := ch67_0 (j := 42) rfl
theorem r67_87 : rowAt 67 87 = some (ra 87 89 (.iload 4) 4 0 0) := ch67_0 (j := 43) rfl
theorem r67_89 : rowAt 67 89 = some (r0 89 90 (.aload_n 0)) := ch67_0 (j := 44) rfl
theorem r67_90 : rowAt 67 90 = some (ra 90 91 (.lload_n 2) 2 0 0) := ch67_0 (j := 45) rfl
theorem r67_91 : rowAt 67 91 = some (ra 91 94 (.invokevirtual 170) 68 2 730) := ch67_0 (j := 46) rfl
theorem r67_94 : rowAt 67 94 = some (r0 94 95 (.imul)) := ch67_0 (j := 47) rfl
theorem r67_95 : rowAt 67 95 = some (r0 95 96 (.ireturn)) := ch67_0 (j := 48) rfl
theorem b67_0 {d : Nat} {q : Rs} {x0 : Nat} {x1 : Int32} {x2 : Int64} {σ : St} {σ2 : St}  (h1 : x0 < 24 ∧ kls x0 = 4)
    (hy : Er d 49 (0, ent 49 [.ref x0, .int x1], [], σ) (.inl none, σ2, 0))
    (k : Er (d + 1) 67 (5, [some (.ref x0), some (.int x1), some (.long x2), none, none], [], σ2) q) :
    Er (d + 1) 67 (0, [some (.ref x0), some (.int x1), some (.long x2), none, none], [], σ) q := Er.sT (c2 := (1, [some (.ref x0), some (.int x1), some (.long x2), none, none], [.ref x0], σ)) r67_0 rfl rfl <| Er.sT (c2 := (2, [some (.ref x0), some (.int x1), some (.long x2), none, none], [.int x1, .ref x0], σ)) r67_1 rfl rfl <| (Er.call (vs := [.ref x0, .int x1]) (rest := []) r67_2 rfl rfl (Nat.le_of_ble_eq_true rfl) (Nat.le_of_ble_eq_true rfl) (fun _ => ⟨_, _, rfl, h1⟩) hy k)
theorem b67_0x {d x c9 : Nat} {x0 : Nat} {x1 : Int32} {x2 : Int64} {σ : St} {σ2 : St} (h1 : x0 < 24 ∧ kls x0 = 4) (hx : x < 4)
    (hy : Er d 49 (0, ent 49 [.ref x0, .int x1], [], σ) (.inr x, σ2, c9)) :
    Er (d + 1) 67 (0, [some (.ref x0), some (.int x1), some (.long x2), none, none], [], σ) (.inr x, σ2, c9) := Er.sT (c2 := (1, [some (.ref x0), some (.int x1), some (.long x2), none, none], [.ref x0], σ)) r67_0 rfl rfl <| Er.sT (c2 := (2, [some (.ref x0), some (.int x1), some (.long x2), none, none], [.int x1, .ref x0], σ)) r67_1 rfl rfl <| (Er.callx (vs := [.ref x0, .int x1]) (rest := []) r67_2 rfl rfl (Nat.le_of_ble_eq_true rfl) (Nat.le_of_ble_eq_true rfl) (fun _ => ⟨_, _, rfl, h1⟩) hx rfl rfl hy)
theorem b67_5 {d : Nat} {q : Rs} {x0 : Nat} {x1 : Int32} {x2 : Int64} {σ : St} {σ2 : St} {r : Int32} (h1 : 46 = 46 ∨ 46 = 47)
    (hy : Er d 147 (0, ent 147 [.ref 46, .long x2], [], σ) (.inl (some (.int r)), σ2, 0))
    (k : Er (d + 1) 67 (12, [some (.ref x0), some (.int x1), some (.long x2), none, none], [.int r], σ2) q) :
    Er (d + 1) 67 (5, [some (.ref x0), some (.int x1), some (.long x2), none, none], [], σ) q := Er.sT (c2 := (8, [some (.ref x0), some (.int x1), some (.long x2), none, none], [.ref 46], σ)) r67_5 rfl rfl <| Er.sT (c2 := (9, [some (.ref x0), some (.int x1), some (.long x2), none, none], [.long x2, .ref 46], σ)) r67_8 rfl rfl <| (Er.call (vs := [.ref 46, .long x2]) (rest := []) r67_9 rfl rfl (Nat.le_of_ble_eq_true rfl) (Nat.le_of_ble_eq_true rfl) (fun _ => ⟨_, _, rfl, h1⟩) hy k)
theorem b67_12 {d : Nat} {q : Rs} {x0 : Nat} {x1 : Int32} {x2 : Int64} {s0 : Int32} {σ : St} 
    (kt : s0 = (0 : Int32) → Er (d + 1) 67 (17, [some (.ref x0), some (.int x1), some (.long x2), none, none], [], σ) q)
    (kf : ¬ s0 = (0 : Int32) → Er (d + 1) 67 (15, [some (.ref x0), some (.int x1), some (.long x2), none, none], [], σ) q) :
    Er (d + 1) 67 (12, [some (.ref x0), some (.int x1), some (.long x2), none, none], [.int s0], σ) q := Er.sT (c2 := (brn .eq s0 (0 : Int32) 17 15, [some (.ref x0), some (.int x1), some (.long x2), none, none], [], σ)) r67_12 rfl rfl <| (br_eq kt kf)
theorem b67_15 {d : Nat} {x0 : Nat} {x1 : Int32} {x2 : Int64} {σ : St}  :
    Er (d + 1) 67 (15, [some (.ref x0), some (.int x1), some (.long x2), none, none], [], σ) (.inl (some (.int (2 : Int32))), σ, 0) := Er.sT (c2 := (16, [some (.ref x0), some (.int x1), some (.long x2), none, none], [.int (2 : Int32)], σ)) r67_15 rfl rfl <| (Er.ret r67_16 rfl ⟨_, _, rfl, rfl, rfl, rfl⟩)
theorem b67_17 {d : Nat} {q : Rs} {x0 : Nat} {x1 : Int32} {x2 : Int64} {σ : St} {σ2 : St}  (h1 : x0 < 24 ∧ kls x0 = 4)
    (hy : Er d 50 (0, ent 50 [.ref x0, .int x1, .ref (fr x0 3)], [], σ) (.inl none, σ2, 0))
    (k : Er (d + 1) 67 (26, [some (.ref x0), some (.int x1), some (.long x2), none, none], [], σ2) q) :
    Er (d + 1) 67 (17, [some (.ref x0), some (.int x1), some (.long x2), none, none], [], σ) q := Er.sT (c2 := (18, [some (.ref x0), some (.int x1), some (.long x2), none, none], [.ref x0], σ)) r67_17 rfl rfl <| Er.sT (c2 := (19, [some (.ref x0), some (.int x1), some (.long x2), none, none], [.int x1, .ref x0], σ)) r67_18 rfl rfl <| Er.sT (c2 := (20, [some (.ref x0), some (.int x1), some (.long x2), none, none], [.ref x0, .int x1, .ref x0], σ)) r67_19 rfl rfl <| Er.st (P := (x0 < 24 ∧ kls x0 = 4)) (c2 := (23, [some (.ref x0), some (.int x1), some (.long x2), none, none], [.ref (fr x0 3), .int x1, .ref x0], σ)) r67_20 rfl rfl h1 <| (Er.call (vs := [.ref x0, .int x1, .ref (fr x0 3)]) (rest := []) r67_23 rfl rfl (Nat.le_of_ble_eq_true rfl) (Nat.le_of_ble_eq_true rfl) (fun _ => ⟨_, _, rfl, h1⟩) hy k)
theorem b67_26 {d : Nat} {q : Rs} {x0 : Nat} {x1 : Int32} {x2 : Int64} {σ : St} {σ2 : St} {r : Int64} (h1 : 46 = 46 ∨ 46 = 47)
    (hy : Er d 141 (0, ent 141 [.ref 46, .long x2], [], σ) (.inl (some (.long r)), σ2, 0))
    (k : Er (d + 1) 67 (33, [some (.ref x0), some (.int x1), some (.long x2), none, none], [.long r], σ2) q) :
    Er (d + 1) 67 (26, [some (.ref x0), some (.int x1), some (.long x2), none, none], [], σ) q := Er.sT (c2 := (29, [some (.ref x0), some (.int x1), some (.long x2), none, none], [.ref 46], σ)) r67_26 rfl rfl <| Er.sT (c2 := (30, [some (.ref x0), some (.int x1), some (.long x2), none, none], [.long x2, .ref 46], σ)) r67_29 rfl rfl <| (Er.call (vs := [.ref 46, .long x2]) (rest := []) r67_30 rfl rfl (Nat.le_of_ble_eq_true rfl) (Nat.le_of_ble_eq_true rfl) (fun _ => ⟨_, _, rfl, h1⟩) hy k)
theorem b67_33 {d : Nat} {q : Rs} {x0 : Nat} {x1 : Int32} {x2 : Int64} {s0 : Int64} {σ : St} 
    (kt : ¬ s0 = (0 : Int64) → Er (d + 1) 67 (42, [some (.ref x0), some (.int x1), some (.long x2), none, none], [], σ) q)
    (kf : s0 = (0 : Int64) → Er (d + 1) 67 (38, [some (.ref x0), some (.int x1), some (.long x2), none, none], [], σ) q) :
    Er (d + 1) 67 (33, [some (.ref x0), some (.int x1), some (.long x2), none, none], [.long s0], σ) q := Er.sT (c2 := (34, [some (.ref x0), some (.int x1), some (.long x2), none, none], [.long (0 : Int64), .long s0], σ)) r67_33 rfl rfl <| Er.sT (c2 := (35, [some (.ref x0), some (.int x1), some (.long x2), none, none], [.int (lg_cmp s0 (0 : Int64))], σ)) r67_34 rfl rfl <| Er.sT (c2 := (brn .ne (lg_cmp s0 (0 : Int64)) (0 : Int32) 42 38, [some (.ref x0), some (.int x1), some (.long x2), none, none], [], σ)) r67_35 rfl rfl <| (bl_ne kt kf)
theorem b67_38 {d : Nat} {q : Rs} {x0 : Nat} {x1 : Int32} {x2 : Int64} {σ : St} 
    (k : Er (d + 1) 67 (49, [some (.ref x0), some (.int x1), some (.long x2), none, none], [.int (0 : Int32)], σ) q) :
    Er (d + 1) 67 (38, [some (.ref x0), some (.int x1), some (.long x2), none, none], [], σ) q := Er.sT (c2 := (39, [some (.ref x0), some (.int x1), some (.long x2), none, none], [.int (0 : Int32)], σ)) r67_38 rfl rfl <| Er.sT (c2 := (49, [some (.ref x0), some (.int x1), some (.long x2), none, none], [.int (0 : Int32)], σ)) r67_39 rfl rfl <| k
theorem b67_42 {d : Nat} {q : Rs} {x0 : Nat} {x1 : Int32} {x2 : Int64} {σ : St} {σ2 : St} {r : Int32} (h1 : 46 = 46 ∨ 46 = 47)
    (hy : Er d 144 (0, ent 144 [.ref 46, .long x2], [], σ) (.inl (some (.int r)), σ2, 0))
    (k : Er (d + 1) 67 (49, [some (.ref x0), some (.int x1), some (.long x2), none, none], [.int r], σ2) q) :
    Er (d + 1) 67 (42, [some (.ref x0), some (.int x1), some (.long x2), none, none], [], σ) q := Er.sT (c2 := (45, [some (.ref x0), some (.int x1), some (.long x2), none, none], [.ref 46], σ)) r67_42 rfl rfl <| Er.sT (c2 := (46, [some (.ref x0), some (.int x1), some (.long x2), none, none], [.long x2, .ref 46], σ)) r67_45 rfl rfl <| (Er.call (vs := [.ref 46, .long x2]) (rest := []) r67_46 rfl rfl (Nat.le_of_ble_eq_true rfl) (Nat.le_of_ble_eq_true rfl) (fun _ => ⟨_, _, rfl, h1⟩) hy k)
theorem b67_49 {d : Nat} {q : Rs} {x0 : Nat} {x1 : Int32} {x2 : Int64} {s0 : Int32} {σ : St} (h1 : x0 < 24 ∧ kls x0 = 4) (h2 : (fr x0 3) < 24 ∧ kls (fr x0 3) = 3)
    (kt : (gfi σ (fr x0 3) 2) = s0 → Er (d + 1) 67 (78, [some (.ref x0), some (.int x1), some (.long x2), none, some (.int s0)], [], σ) q)
    (kf : ¬ (gfi σ (fr x0 3) 2) = s0 → Er (d + 1) 67 (63, [some (.ref x0), some (.int x1), some (.long x2), none, some (.int s0)], [], σ) q) :
    Er (d + 1) 67 (49, [some (.ref x0), some (.int x1), some (.long x2), none, none], [.int s0], σ) q := Er.sT (c2 := (51, [some (.ref x0), some (.int x1), some (.long x2), none, some (.int s0)], [], σ)) r67_49 rfl rfl <| Er.sT (c2 := (52, [some (.ref x0), some (.int x1), some (.long x2), none, some (.int s0)], [.ref x0], σ)) r67_51 rfl rfl <| Er.st (P := (x0 < 24 ∧ kls x0 = 4)) (c2 := (55, [some (.ref x0), some (.int x1), some (.long x2), none, some (.int s0)], [.ref (fr x0 3)], σ)) r67_52 rfl rfl h1 <| Er.st (P := ((fr x0 3) < 24 ∧ kls (fr x0 3) = 3)) (c2 := (58, [some (.ref x0), some (.int x1), some (.long x2), none, some (.int s0)], [.int (gfi σ (fr x0 3) 2)], σ)) r67_55 rfl rfl h2 <| Er.sT (c2 := (60, [some (.ref x0), some (.int x1), some (.long x2), none, some (.int s0)], [.int s0, .int (gfi σ (fr x0 3) 2)], σ)) r67_58 rfl rfl <| Er.sT (c2 := (brn .eq (gfi σ (fr x0 3) 2) s0 78 63, [some (.ref x0), some (.int x1), some (.long x2), none, some (.int s0)], [], σ)) r67_60 rfl rfl <| (br_eq kt kf)
theorem b67_63 {d : Nat} {q : Rs} {x0 : Nat} {x1 : Int32} {x2 : Int64} {x4 : Int32} {σ : St} {σ2 : St} {r : Int32} (h1 : x0 < 24 ∧ kls x0 = 4) (h2 : (fr x0 3) < 24 ∧ kls (fr x0 3) = 3)
    (hy : Er d 40 (0, ent 40 [.long ((gfi σ (fr x0 3) 2).toInt64), .long (x4.toInt64)], [], σ) (.inl (some (.int r)), σ2, 0))
    (k : Er (d + 1) 67 (77, [some (.ref x0), some (.int x1), some (.long x2), none, some (.int x4)], [.int r], σ2) q) :
    Er (d + 1) 67 (63, [some (.ref x0), some (.int x1), some (.long x2), none, some (.int x4)], [], σ) q := Er.sT (c2 := (64, [some (.ref x0), some (.int x1), some (.long x2), none, some (.int x4)], [.ref x0], σ)) r67_63 rfl rfl <| Er.st (P := (x0 < 24 ∧ kls x0 = 4)) (c2 := (67, [some (.ref x0), some (.int x1), some (.long x2), none, some (.int x4)], [.ref (fr x0 3)], σ)) r67_64 rfl rfl h1 <| Er.st (P := ((fr x0 3) < 24 ∧ kls (fr x0 3) = 3)) (c2 := (70, [some (.ref x0), some (.int x1), some (.long x2), none, some (.int x4)], [.int (gfi σ (fr x0 3) 2)], σ)) r67_67 rfl rfl h2 <| Er.sT (c2 := (71, [some (.ref x0), some (.int x1), some (.long x2), none, some (.int x4)], [.long ((gfi σ (fr x0 3) 2).toInt64)], σ)) r67_70 rfl rfl <| Er.sT (c2 := (73, [some (.ref x0), some (.int x1), some (.long x2), none, some (.int x4)], [.int x4, .long ((gfi σ (fr x0 3) 2).toInt64)], σ)) r67_71 rfl rfl <| Er.sT (c2 := (74, [some (.ref x0), some (.int x1), some (.long x2), none, some (.int x4)], [.long (x4.toInt64), .long ((gfi σ (fr x0 3) 2).toInt64)], σ)) r67_73 rfl rfl <| (Er.call (vs := [.long ((gfi σ (fr x0 3) 2).toInt64), .long (x4.toInt64)]) (rest := []) r67_74 rfl rfl (Nat.le_of_ble_eq_true rfl) (Nat.le_of_ble_eq_true rfl) (fun h => absurd h (by decide +kernel)) hy k)
theorem b67_77 {d : Nat} {x0 : Nat} {x1 : Int32} {x2 : Int64} {x4 : Int32} {s0 : Int32} {σ : St}  :
    Er (d + 1) 67 (77, [some (.ref x0), some (.int x1), some (.long x2), none, some (.int x4)], [.int s0], σ) (.inl (some (.int s0)), σ, 0) := (Er.ret r67_77 rfl ⟨_, _, rfl, rfl, rfl, rfl⟩)
theorem b67_78 {d : Nat} {q : Rs} {x0 : Nat} {x1 : Int32} {x2 : Int64} {x4 : Int32} {σ : St} 
    (kt : ¬ x4 = (0 : Int32) → Er (d + 1) 67 (87, [some (.ref x0), some (.int x1), some (.long x2), none, some (.int x4)], [], σ) q)
    (kf : x4 = (0 : Int32) → Er (d + 1) 67 (83, [some (.ref x0), some (.int x1), some (.long x2), none, some (.int x4)], [], σ) q) :
    Er (d + 1) 67 (78, [some (.ref x0), some (.int x1), some (.long x2), none, some (.int x4)], [], σ) q := Er.sT (c2 := (80, [some (.ref x0), some (.int x1), some (.long x2), none, some (.int x4)], [.int x4], σ)) r67_78 rfl rfl <| Er.sT (c2 := (brn .ne x4 (0 : Int32) 87 83, [some (.ref x0), some (.int x1), some (.long x2), none, some (.int x4)], [], σ)) r67_80 rfl rfl <| (br_ne kt kf)
theorem b67_83 {d : Nat} {q : Rs} {x0 : Nat} {x1 : Int32} {x2 : Int64} {x4 : Int32} {σ : St} 
    (k : Er (d + 1) 67 (95, [some (.ref x0), some (.int x1), some (.long x2), none, some (.int x4)], [.int (0 : Int32)], σ) q) :
    Er (d + 1) 67 (83, [some (.ref x0), some (.int x1), some (.long x2), none, some (.int x4)], [], σ) q := Er.sT (c2 := (84, [some (.ref x0), some (.int x1), some (.long x2), none, some (.int x4)], [.int (0 : Int32)], σ)) r67_83 rfl rfl <| Er.sT (c2 := (95, [some (.ref x0), some (.int x1), some (.long x2), none, some (.int x4)], [.int (0 : Int32)], σ)) r67_84 rfl rfl <| k
theorem b67_87 {d : Nat} {q : Rs} {x0 : Nat} {x1 : Int32} {x2 : Int64} {x4 : Int32} {σ : St} {σ2 : St} {r : Int32} (h1 : x0 < 24 ∧ kls x0 = 4)
    (hy : Er d 68 (0, ent 68 [.ref x0, .long x2], [], σ) (.inl (some (.int r)), σ2, 0))
    (k : Er (d + 1) 67 (94, [some (.ref x0), some (.int x1), some (.long x2), none, some (.int x4)], [.int r, .int x4], σ2) q) :
    Er (d + 1) 67 (87, [some (.ref x0), some (.int x1), some (.long x2), none, some (.int x4)], [], σ) q := Er.sT (c2 := (89, [some (.ref x0), some (.int x1), some (.long x2), none, some (.int x4)], [.int x4], σ)) r67_87 rfl rfl <| Er.sT (c2 := (90, [some (.ref x0), some (.int x1), some (.long x2), none, some (.int x4)], [.ref x0, .int x4], σ)) r67_89 rfl rfl <| Er.sT (c2 := (91, [some (.ref x0), some (.int x1), some (.long x2), none, some (.int x4)], [.long x2, .ref x0, .int x4], σ)) r67_90 rfl rfl <| (Er.call (vs := [.ref x0, .long x2]) (rest := [.int x4]) r67_91 rfl rfl (Nat.le_of_ble_eq_true rfl) (Nat.le_of_ble_eq_true rfl) (fun _ => ⟨_, _, rfl, h1⟩) hy k)
theorem b67_94 {d : Nat} {q : Rs} {x0 : Nat} {x1 : Int32} {x2 : Int64} {x4 : Int32} {s0 : Int32} {s1 : Int32} {σ : St} 
    (k : Er (d + 1) 67 (95, [some (.ref x0), some (.int x1), some (.long x2), none, some (.int x4)], [.int (s0 * s1)], σ) q) :
    Er (d + 1) 67 (94, [some (.ref x0), some (.int x1), some (.long x2), none, some (.int x4)], [.int s1, .int s0], σ) q := Er.sT (c2 := (95, [some (.ref x0), some (.int x1), some (.long x2), none, some (.int x4)], [.int (s0 * s1)], σ)) r67_94 rfl rfl <| k
theorem b67_95 {d : Nat} {x0 : Nat} {x1 : Int32} {x2 : Int64} {x4 : Int32} {s0 : Int32} {σ : St}  :
    Er (d + 1) 67 (95, [some (.ref x0), some (.int x1), some (.long x2), none, some (.int x4)], [.int s0], σ) (.inl (some (.int s0)), σ, 0) := (Er.ret r67_95 rfl ⟨_, _, rfl, rfl, rfl, rfl⟩)
/-! NumberModels.compareSizeWith(J)I -/
theorem tab_68 : tab 68 = tb68_0 ++ tb68_1 := rfl
theorem ch68_0 {j : Nat} {r : Row} (h : tb68_0[j]? = some r) : rowAt 68 r.1 = some r := row_mem 68 (by decide) (by rw [tab_68]; exact (List.mem_append_left _ (List.mem_of_getElem? h)))
theorem ch68_1 {j : Nat} {r : Row} (h : tb68_1[j]? = some r) : rowAt 68 r.1 = some r := row_mem 68 (by decide) (by rw [tab_68]; exact (List.mem_append_right _ (List.mem_of_getElem? h)))
theorem r68_0 : rowAt 68 0 = some (ra 0 3 (.getstatic 93) 46 0 494) := ch68_0 (j := 0) rfl
theorem r68_3 : rowAt 68 3 = some (ra 3 4 (.lload_n 1) 1 0 0) := ch68_0 (j := 1) rfl
theorem r68_4 : rowAt 68 4 = some (ra 4 7 (.invokevirtual 99) 140 2 496) := ch68_0 (j := 2) rfl
theorem r68_7 : rowAt 68 7 = some (ra 7 10 (.ifCond .ne 5) 12 0 0) := ch68_0 (j := 3) rfl
theorem r68_10 : rowAt 68 10 = some (10, 11, .iconst (-1), 0, 0, 0, (-1), 0) := ch68_0 (j := 4) rfl
theorem r68_11 : rowAt 68 11 = some (r0 11 12 (.ireturn)) := ch68_0 (j := 5) rfl
theorem r68_12 : rowAt 68 12 = some (r0 12 13 (.aload_n 0)) := ch68_0 (j := 6) rfl
theorem r68_13 : rowAt 68 13 = some (ra 13 16 (.getfield 33) 6 4 196) := ch68_0 (j := 7) rfl
theorem r68_16 : rowAt 68 16 = some (ra 16 19 (.getstatic 93) 46 0 494) := ch68_0 (j := 8) rfl
theorem r68_19 : rowAt 68 19 = some (ra 19 20 (.lload_n 1) 1 0 0) := ch68_0 (j := 9) rfl
theorem r68_20 : rowAt 68 20 = some (ra 20 23 (.invokevirtual 105) 142 2 505) := ch68_0 (j := 10) rfl
theorem r68_23 : rowAt 68 23 = some (ra 23 26 (.invokevirtual 72) 11 2 243) := ch68_0 (j := 11) rfl
theorem r68_26 : rowAt 68 26 = some (r0 26 27 (.aload_n 0)) := ch68_0 (j := 12) rfl
theorem r68_27 : rowAt 68 27 = some (ra 27 30 (.getfield 37) 7 4 197) := ch68_0 (j := 13) rfl
theorem r68_30 : rowAt 68 30 = some (r0 30 31 (.aload_n 0)) := ch68_0 (j := 14) rfl
theorem r68_31 : rowAt 68 31 = some (ra 31 34 (.getfield 33) 6 4 196) := ch68_0 (j := 15) rfl
theorem r68_34 : rowAt 68 34 = some (r0 34 35 (.aload_n 0)) := ch68_0 (j := 16) rfl
theorem r68_35 : rowAt 68 35 = some (ra 35 38 (.getfield 20) 3 4 193) := ch68_0 (j := 17) rfl
theorem r68_38 : rowAt 68 38 = some (ra 38 41 (.getfield 76) 1 3 124) := ch68_0 (j := 18) rfl
theorem r68_41 : rowAt 68 41 = some (ra 41 44 (.invokevirtual 290) 27 3 623) := ch68_0 (j := 19) rfl
theorem r68_44 : rowAt 68 44 = some (r0 44 45 (.aload_n 0)) := ch68_0 (j := 20) rfl
theorem r68_45 : rowAt 68 45 = some (ra 45 48 (.getfield 33) 6 4 196) := ch68_0 (j := 21) rfl
theorem r68_48 : rowAt 68 48 = some (r0 48 49 (.aload_n 0)) := ch68_0 (j := 22) rfl
theorem r68_49 : rowAt 68 49 = some (ra 49 52 (.getfield 20) 3 4 193) := ch68_0 (j := 23) rfl
theorem r68_52 : rowAt 68 52 = some (ra 52 55 (.getfield 65) 0 3 122) := ch68_0 (j := 24) rfl
theorem r68_55 : rowAt 68 55 = some (ra 55 58 (.invokevirtual 297) 19 2 486) := ch68_0 (j := 25) rfl
theorem r68_58 : rowAt 68 58 = some (ra 58 61 (.getstatic 93) 46 0 494) := ch68_0 (j := 26) rfl
theorem r68_61 : rowAt 68 61 = some (ra 61 62 (.lload_n 1) 1 0 0) := ch68_0 (j := 27) rfl
theorem r68_62 : rowAt 68 62 = some (ra 62 65 (.invokevirtual 116) 146 2 522) := ch68_0 (j := 28) rfl
theorem r68_65 : rowAt 68 65 = some (ra 65 66 (.istore_n 3) 3 0 0) := ch68_0 (j := 29) rfl
theorem r68_66 : rowAt 68 66 = some (ra 66 67 (.iload_n 3) 3 0 0) := ch68_0 (j := 30) rfl
theorem r68_67 : rowAt 68 67 = some (r0 67 68 (.ineg)) := ch68_0 (j := 31) rfl
theorem r68_68 : rowAt 68 68 = some (r0 68 69 (.iconst 0)) := ch68_0 (j := 32) rfl
theorem r68_69 : rowAt 68 69 = some (ra 69 72 (.invokestatic 319) 991 2 734) := ch68_0 (j := 33) rfl
theorem r68_72 : rowAt 68 72 = some (ra 72 74 (.istore 4) 4 0 0) := ch68_0 (j := 34) rfl
theorem r68_74 : rowAt 68 74 = some (ra 74 75 (.iload_n 3) 3 0 0) := ch68_0 (j := 35) rfl
theorem r68_75 : rowAt 68 75 = some (r0 75 76 (.iconst 0)) := ch68_0 (j := 36) rfl
theorem r68_76 : rowAt 68 76 = some (ra 76 79 (.invokestatic 319) 991 2 734) := ch68_0 (j := 37) rfl
theorem r68_79 : rowAt 68 79 = some (ra 79 81 (.istore 5) 5 0 0) := ch68_0 (j := 38) rfl
theorem r68_81 : rowAt 68 81 = some (r0 81 82 (.aload_n 0)) := ch68_0 (j := 39) rfl
theorem r68_82 : rowAt 68 82 = some (ra 82 85 (.getfield 33) 6 4 196) := ch68_0 (j := 40) rfl
theorem r68_85 : rowAt 68 85 = some (ra 85 88 (.invokevirtual 144) 14 1 333) := ch68_0 (j := 41) rfl
theorem r68_88 : rowAt 68 88 = some (ra 88 90 (.iload 4) 4 0 0) := ch68_0 (j := 42) rfl
theorem r68_90 : rowAt 68 90 = some (r0 90 91 (.iadd)) := ch68_0 (j := 43) rfl
theorem r68_91 : rowAt 68 91 = some (r0 91 92 (.i2l)) := ch68_0 (j := 44) rfl
theorem r68_92 : rowAt 68 92 = some (r0 92 93 (.aload_n 0)) := ch68_0 (j := 45) rfl
theorem r68_93 : rowAt 68 93 = some (ra 93 96 (.getfield 37) 7 4 197) := ch68_0 (j := 46) rfl
theorem r68_96 : rowAt 68 96 = some (ra 96 99 (.invokevirtual 144) 14 1 333) := ch68_0 (j := 47) rfl
theorem r68_99 : rowAt 68 99 = some (ra 99 101 (.iload 5) 5 0 0) := ch68_0 (j := 48) rfl
theorem r68_101 : rowAt 68 101 = some (r0 101 102 (.iadd)) := ch68_0 (j := 49) rfl
theorem r68_102 : rowAt 68 102 = some (r0 102 103 (.i2l)) := ch68_0 (j := 50) rfl
theorem r68_103 : rowAt 68 103 = some (ra 103 106 (.invokestatic 58) 40 2 237) := ch68_0 (j := 51) rfl
theorem r68_106 : rowAt 68 106 = some (ra 106 108 (.istore 6) 6 0 0) := ch68_0 (j := 52) rfl
theorem r68_108 : rowAt 68 108 = some (ra 108 110 (.iload 6) 6 0 0) := ch68_0 (j := 53) rfl
theorem r68_110 : rowAt 68 110 = some (ra 110 113 (.ifCond .eq 6) 116 0 0) := ch68_0 (j := 54) rfl
theorem r68_113 : rowAt 68 113 = some (ra 113 115 (.iload 6) 6 0 0) := ch68_0 (j := 55) rfl
theorem r68_115 : rowAt 68 115 = some (r0 115 116 (.ireturn)) := ch68_0 (j := 56) rfl
theorem r68_116 : rowAt 68 116 = some (r0 116 117 (.aload_n 0)) := ch68_0 (j := 57) rfl
theorem r68_117 : rowAt 68 117 = some (ra 117 120 (.getfield 33) 6 4 196) := ch68_0 (j := 58) rfl
theorem r68_120 : rowAt 68 120 = some (ra 120 122 (.iload 4) 4 0 0) := ch68_0 (j := 59) rfl
theorem r68_122 : rowAt 68 122 = some (ra 122 125 (.invokevirtual 325) 22 2 735) := ch68_1 (j := 0) rfl
theorem r68_125 : rowAt 68 125 = some (r0 125 126 (.aload_n 0)) := ch68_1 (j := 1) rfl
theorem r68_126 : rowAt 68 126 = some (ra 126 129 (.getfield 37) 7 4 197) := ch68_1 (j := 2) rfl
theorem r68_129 : rowAt 68 129 = some (ra 129 131 (.iload 5) 5 0 0) := ch68_1 (j := 3) rfl
theorem r68_131 : rowAt 68 131 = some (ra 131 134 (.invokevirtual 325) 22 2 735) := ch68_1 (j := 4) rfl
theorem r68_134 : rowAt 68 134 = some (r0 134 135 (.aload_n 0)) := ch68_1 (j := 5) rfl
theorem r68_135 : rowAt 68 135 = some (ra 135 138 (.getfield 33) 6 4 196) := ch68_1 (j := 6) rfl
theorem r68_138 : rowAt 68 138 = some (r0 138 139 (.aload_n 0)) := ch68_1 (j := 7) rfl
theorem r68_139 : rowAt 68 139 = some (ra 139 142 (.getfield 37) 7 4 197) := ch68_1 (j := 8) rfl
theorem r68_142 : rowAt 68 142 = some (ra 142 145 (.invokevirtual 293) 20 2 627) := ch68_1 (j := 9) rfl
theorem r68_145 : rowAt 68 145 = some (r0 145 146 (.ireturn)) := ch68_1 (j := 10) rfl
theorem b68_0 {d : Nat} {q : Rs} {x0 : Nat} {x1 : Int64} {σ : St} {σ2 : St} {r : Int32} (h1 : 46 = 46 ∨ 46 = 47)
    (hy : Er d 140 (0, ent 140 [.ref 46, .long x1], [], σ) (.inl (some (.int r)), σ2, 0))
    (k : Er (d + 1) 68 (7, [some (.ref x0), some (.long x1), none, none, none, none, none], [.int r], σ2) q) :
    Er (d + 1) 68 (0, [some (.ref x0), some (.long x1), none, none, none, none, none], [], σ) q := Er.sT (c2 := (3, [some (.ref x0), some (.long x1), none, none, none, none, none], [.ref 46], σ)) r68_0 rfl rfl <| Er.sT (c2 := (4, [some (.ref x0), some (.long x1), none, none, none, none, none], [.long x1, .ref 46], σ)) r68_3 rfl rfl <| (Er.call (vs := [.ref 46, .long x1]) (rest := []) r68_4 rfl rfl (Nat.le_of_ble_eq_true rfl) (Nat.le_of_ble_eq_true rfl) (fun _ => ⟨_, _, rfl, h1⟩) hy k)
theorem b68_7 {d : Nat} {q : Rs} {x0 : Nat} {x1 : Int64} {s0 : Int32} {σ : St} 
    (kt : ¬ s0 = (0 : Int32) → Er (d + 1) 68 (12, [some (.ref x0), some (.long x1), none, none, none, none, none], [], σ) q)
    (kf : s0 = (0 : Int32) → Er (d + 1) 68 (10, [some (.ref x0), some (.long x1), none, none, none, none, none], [], σ) q) :
    Er (d + 1) 68 (7, [some (.ref x0), some (.long x1), none, none, none, none, none], [.int s0], σ) q := Er.sT (c2 := (brn .ne s0 (0 : Int32) 12 10, [some (.ref x0), some (.long x1), none, none, none, none, none], [], σ)) r68_7 rfl rfl <| (br_ne kt kf)
theorem b68_10 {d : Nat} {x0 : Nat} {x1 : Int64} {σ : St}  :
    Er (d + 1) 68 (10, [some (.ref x0), some (.long x1), none, none, none, none, none], [], σ) (.inl (some (.int (-1 : Int32))), σ, 0) := Er.sT (c2 := (11, [some (.ref x0), some (.long x1), none, none, none, none, none], [.int (-1 : Int32)], σ)) r68_10 rfl rfl <| (Er.ret r68_11 rfl ⟨_, _, rfl, rfl, rfl, rfl⟩)
theorem b68_12 {d : Nat} {q : Rs} {x0 : Nat} {x1 : Int64} {σ : St} {σ2 : St} {r : Int64} (h1 : x0 < 24 ∧ kls x0 = 4) (h2 : 46 = 46 ∨ 46 = 47)
    (hy : Er d 142 (0, ent 142 [.ref 46, .long x1], [], σ) (.inl (some (.long r)), σ2, 0))
    (k : Er (d + 1) 68 (23, [some (.ref x0), some (.long x1), none, none, none, none, none], [.long r, .ref (fr x0 6)], σ2) q) :
    Er (d + 1) 68 (12, [some (.ref x0), some (.long x1), none, none, none, none, none], [], σ) q := Er.sT (c2 := (13, [some (.ref x0), some (.long x1), none, none, none, none, none], [.ref x0], σ)) r68_12 rfl rfl <| Er.st (P := (x0 < 24 ∧ kls x0 = 4)) (c2 := (16, [some (.ref x0), some (.long x1), none, none, none, none, none], [.ref (fr x0 6)], σ)) r68_13 rfl rfl h1 <| Er.sT (c2 := (19, [some (.ref x0), some (.long x1), none, none, none, none, none], [.ref 46, .ref (fr x0 6)], σ)) r68_16 rfl rfl <| Er.sT (c2 := (20, [some (.ref x0), some (.long x1), none, none, none, none, none], [.long x1, .ref 46, .ref (fr x0 6)], σ)) r68_19 rfl rfl <| (Er.call (vs := [.ref 46, .long x1]) (rest := [.ref (fr x0 6)]) r68_20 rfl rfl (Nat.le_of_ble_eq_true rfl) (Nat.le_of_ble_eq_true rfl) (fun _ => ⟨_, _, rfl, h2⟩) hy k)
theorem b68_23 {d : Nat} {q : Rs} {x0 : Nat} {x1 : Int64} {s0 : Nat} {s1 : Int64} {σ : St} {σ2 : St}  (h1 : s0 < 24 ∧ kls s0 = 2)
    (hy : Er d 11 (0, ent 11 [.ref s0, .long s1], [], σ) (.inl none, σ2, 0))
    (k : Er (d + 1) 68 (26, [some (.ref x0), some (.long x1), none, none, none, none, none], [], σ2) q) :
    Er (d + 1) 68 (23, [some (.ref x0), some (.long x1), none, none, none, none, none], [.long s1, .ref s0], σ) q := (Er.call (vs := [.ref s0, .long s1]) (rest := []) r68_23 rfl rfl (Nat.le_of_ble_eq_true rfl) (Nat.le_of_ble_eq_true rfl) (fun _ => ⟨_, _, rfl, h1⟩) hy k)
theorem b68_26 {d : Nat} {q : Rs} {x0 : Nat} {x1 : Int64} {σ : St} {σ2 : St}  (h1 : x0 < 24 ∧ kls x0 = 4) (h2 : (fr x0 3) < 24 ∧ kls (fr x0 3) = 3) (h3 : (fr x0 7) < 24 ∧ kls (fr x0 7) = 2)
    (hy : Er d 27 (0, ent 27 [.ref (fr x0 7), .ref (fr x0 6), .ref (fr (fr x0 3) 1)], [], σ) (.inl none, σ2, 0))
    (k : Er (d + 1) 68 (44, [some (.ref x0), some (.long x1), none, none, none, none, none], [], σ2) q) :
    Er (d + 1) 68 (26, [some (.ref x0), some (.long x1), none, none, none, none, none], [], σ) q := Er.sT (c2 := (27, [some (.ref x0), some (.long x1), none, none, none, none, none], [.ref x0], σ)) r68_26 rfl rfl <| Er.st (P := (x0 < 24 ∧ kls x0 = 4)) (c2 := (30, [some (.ref x0), some (.long x1), none, none, none, none, none], [.ref (fr x0 7)], σ)) r68_27 rfl rfl h1 <| Er.sT (c2 := (31, [some (.ref x0), some (.long x1), none, none, none, none, none], [.ref x0, .ref (fr x0 7)], σ)) r68_30 rfl rfl <| Er.st (P := (x0 < 24 ∧ kls x0 = 4)) (c2 := (34, [some (.ref x0), some (.long x1), none, none, none, none, none], [.ref (fr x0 6), .ref (fr x0 7)], σ)) r68_31 rfl rfl h1 <| Er.sT (c2 := (35, [some (.ref x0), some (.long x1), none, none, none, none, none], [.ref x0, .ref (fr x0 6), .ref (fr x0 7)], σ)) r68_34 rfl rfl <| Er.st (P := (x0 < 24 ∧ kls x0 = 4)) (c2 := (38, [some (.ref x0), some (.long x1), none, none, none, none, none], [.ref (fr x0 3), .ref (fr x0 6), .ref (fr x0 7)], σ)) r68_35 rfl rfl h1 <| Er.st (P := ((fr x0 3) < 24 ∧ kls (fr x0 3) = 3)) (c2 := (41, [some (.ref x0), some (.long x1), none, none, none, none, none], [.ref (fr (fr x0 3) 1), .ref (fr x0 6), .ref (fr x0 7)], σ)) r68_38 rfl rfl h2 <| (Er.call (vs := [.ref (fr x0 7), .ref (fr x0 6), .ref (fr (fr x0 3) 1)]) (rest := []) r68_41 rfl rfl (Nat.le_of_ble_eq_true rfl) (Nat.le_of_ble_eq_true rfl) (fun _ => ⟨_, _, rfl, h3⟩) hy k)
theorem b68_44 {d : Nat} {q : Rs} {x0 : Nat} {x1 : Int64} {σ : St} {σ2 : St}  (h1 : x0 < 24 ∧ kls x0 = 4) (h2 : (fr x0 3) < 24 ∧ kls (fr x0 3) = 3) (h3 : (fr x0 6) < 24 ∧ kls (fr x0 6) = 2)
    (hy : Er d 19 (0, ent 19 [.ref (fr x0 6), .ref (fr (fr x0 3) 0)], [], σ) (.inl none, σ2, 0))
    (k : Er (d + 1) 68 (58, [some (.ref x0), some (.long x1), none, none, none, none, none], [], σ2) q) :
    Er (d + 1) 68 (44, [some (.ref x0), some (.long x1), none, none, none, none, none], [], σ) q := Er.sT (c2 := (45, [some (.ref x0), some (.long x1), none, none, none, none, none], [.ref x0], σ)) r68_44 rfl rfl <| Er.st (P := (x0 < 24 ∧ kls x0 = 4)) (c2 := (48, [some (.ref x0), some (.long x1), none, none, none, none, none], [.ref (fr x0 6)], σ)) r68_45 rfl rfl h1 <| Er.sT (c2 := (49, [some (.ref x0), some (.long x1), none, none, none, none, none], [.ref x0, .ref (fr x0 6)], σ)) r68_48 rfl rfl <| Er.st (P := (x0 < 24 ∧ kls x0 = 4)) (c2 := (52, [some (.ref x0), some (.long x1), none, none, none, none, none], [.ref (fr x0 3), .ref (fr x0 6)], σ)) r68_49 rfl rfl h1 <| Er.st (P := ((fr x0 3) < 24 ∧ kls (fr x0 3) = 3)) (c2 := (55, [some (.ref x0), some (.long x1), none, none, none, none, none], [.ref (fr (fr x0 3) 0), .ref (fr x0 6)], σ)) r68_52 rfl rfl h2 <| (Er.call (vs := [.ref (fr x0 6), .ref (fr (fr x0 3) 0)]) (rest := []) r68_55 rfl rfl (Nat.le_of_ble_eq_true rfl) (Nat.le_of_ble_eq_true rfl) (fun _ => ⟨_, _, rfl, h3⟩) hy k)
theorem b68_58 {d : Nat} {q : Rs} {x0 : Nat} {x1 : Int64} {σ : St} {σ2 : St} {r : Int32} (h1 : 46 = 46 ∨ 46 = 47)
    (hy : Er d 146 (0, ent 146 [.ref 46, .long x1], [], σ) (.inl (some (.int r)), σ2, 0))
    (k : Er (d + 1) 68 (65, [some (.ref x0), some (.long x1), none, none, none, none, none], [.int r], σ2) q) :
    Er (d + 1) 68 (58, [some (.ref x0), some (.long x1), none, none, none, none, none], [], σ) q := Er.sT (c2 := (61, [some (.ref x0), some (.long x1), none, none, none, none, none], [.ref 46], σ)) r68_58 rfl rfl <| Er.sT (c2 := (62, [some (.ref x0), some (.long x1), none, none, none, none, none], [.long x1, .ref 46], σ)) r68_61 rfl rfl <| (Er.call (vs := [.ref 46, .long x1]) (rest := []) r68_62 rfl rfl (Nat.le_of_ble_eq_true rfl) (Nat.le_of_ble_eq_true rfl) (fun _ => ⟨_, _, rfl, h1⟩) hy k)
theorem b68_65 {d : Nat} {q : Rs} {x0 : Nat} {x1 : Int64} {s0 : Int32} {σ : St} {σ2 : St} {r : Int32} (h1 : x0 < 24 ∧ kls x0 = 4) (h2 : (fr x0 6) < 24 ∧ kls (fr x0 6) = 2)
    (hy : Er d 14 (0, ent 14 [.ref (fr x0 6)], [], σ) (.inl (some (.int r)), σ2, 0))
    (k : Er (d + 1) 68 (88, [some (.ref x0), some (.long x1), none, some (.int s0), some (.int (if (-s0) < (0 : Int32) then (0 : Int32) else (-s0))), some (.int (if s0 < (0 : Int32) then (0 : Int32) else s0)), none], [.int r], σ2) q) :
    Er (d + 1) 68 (65, [some (.ref x0), some (.long x1), none, none, none, none, none], [.int s0], σ) q := Er.sT (c2 := (66, [some (.ref x0), some (.long x1), none, some (.int s0), none, none, none], [], σ)) r68_65 rfl rfl <| Er.sT (c2 := (67, [some (.ref x0), some (.long x1), none, some (.int s0), none, none, none], [.int s0], σ)) r68_66 rfl rfl <| Er.sT (c2 := (68, [some (.ref x0), some (.long x1), none, some (.int s0), none, none, none], [.int (-s0)], σ)) r68_67 rfl rfl <| Er.sT (c2 := (69, [some (.ref x0), some (.long x1), none, some (.int s0), none, none, none], [.int (0 : Int32), .int (-s0)], σ)) r68_68 rfl rfl <| Er.st (P := ((([] : List Value).map fun v => v.category).sum ≤ 8)) (c2 := (72, [some (.ref x0), some (.long x1), none, some (.int s0), none, none, none], [.int (if (-s0) < (0 : Int32) then (0 : Int32) else (-s0))], σ)) r68_69 rfl rfl (Nat.le_of_ble_eq_true rfl) <| Er.sT (c2 := (74, [some (.ref x0), some (.long x1), none, some (.int s0), some (.int (if (-s0) < (0 : Int32) then (0 : Int32) else (-s0))), none, none], [], σ)) r68_72 rfl rfl <| Er.sT (c2 := (75, [some (.ref x0), some (.long x1), none, some (.int s0), some (.int (if (-s0) < (0 : Int32) then (0 : Int32) else (-s0))), none, none], [.int s0], σ)) r68_74 rfl rfl <| Er.sT (c2 := (76, [some (.ref x0), some (.long x1), none, some (.int s0), some (.int (if (-s0) < (0 : Int32) then (0 : Int32) else (-s0))), none, none], [.int (0 : Int32), .int s0], σ)) r68_75 rfl rfl <| Er.st (P := ((([] : List Value).map fun v => v.category).sum ≤ 8)) (c2 := (79, [some (.ref x0), some (.long x1), none, some (.int s0), some (.int (if (-s0) < (0 : Int32) then (0 : Int32) else (-s0))), none, none], [.int (if s0 < (0 : Int32) then (0 : Int32) else s0)], σ)) r68_76 rfl rfl (Nat.le_of_ble_eq_true rfl) <| Er.sT (c2 := (81, [some (.ref x0), some (.long x1), none, some (.int s0), some (.int (if (-s0) < (0 : Int32) then (0 : Int32) else (-s0))), some (.int (if s0 < (0 : Int32) then (0 : Int32) else s0)), none], [], σ)) r68_79 rfl rfl <| Er.sT (c2 := (82, [some (.ref x0), some (.long x1), none, some (.int s0), some (.int (if (-s0) < (0 : Int32) then (0 : Int32) else (-s0))), some (.int (if s0 < (0 : Int32) then (0 : Int32) else s0)), none], [.ref x0], σ)) r68_81 rfl rfl <| Er.st (P := (x0 < 24 ∧ kls x0 = 4)) (c2 := (85, [some (.ref x0), some (.long x1), none, some (.int s0), some (.int (if (-s0) < (0 : Int32) then (0 : Int32) else (-s0))), some (.int (if s0 < (0 : Int32) then (0 : Int32) else s0)), none], [.ref (fr x0 6)], σ)) r68_82 rfl rfl h1 <| (Er.call (vs := [.ref (fr x0 6)]) (rest := []) r68_85 rfl rfl (Nat.le_of_ble_eq_true rfl) (Nat.le_of_ble_eq_true rfl) (fun _ => ⟨_, _, rfl, h2⟩) hy k)
theorem b68_88 {d : Nat} {q : Rs} {x0 : Nat} {x1 : Int64} {x3 : Int32} {x4 : Int32} {x5 : Int32} {s0 : Int32} {σ : St} {σ2 : St} {r : Int32} (h1 : x0 < 24 ∧ kls x0 = 4) (h2 : (fr x0 7) < 24 ∧ kls (fr x0 7) = 2)
    (hy : Er d 14 (0, ent 14 [.ref (fr x0 7)], [], σ) (.inl (some (.int r)), σ2, 0))
    (k : Er (d + 1) 68 (99, [some (.ref x0), some (.long x1), none, some (.int x3), some (.int x4), some (.int x5), none], [.int r, .long ((s0 + x4).toInt64)], σ2) q) :
    Er (d + 1) 68 (88, [some (.ref x0), some (.long x1), none, some (.int x3), some (.int x4), some (.int x5), none], [.int s0], σ) q := Er.sT (c2 := (90, [some (.ref x0), some (.long x1), none, some (.int x3), some (.int x4), some (.int x5), none], [.int x4, .int s0], σ)) r68_88 rfl rfl <| Er.sT (c2 := (91, [some (.ref x0), some (.long x1), none, some (.int x3), some (.int x4), some (.int x5), none], [.int (s0 + x4)], σ)) r68_90 rfl rfl <| Er.sT (c2 := (92, [some (.ref x0), some (.long x1), none, some (.int x3), some (.int x4), some (.int x5), none], [.long ((s0 + x4).toInt64)], σ)) r68_91 rfl rfl <| Er.sT (c2 := (93, [some (.ref x0), some (.long x1), none, some (.int x3), some (.int x4), some (.int x5), none], [.ref x0, .long ((s0 + x4).toInt64)], σ)) r68_92 rfl rfl <| Er.st (P := (x0 < 24 ∧ kls x0 = 4)) (c2 := (96, [some (.ref x0), some (.long x1), none, some (.int x3), some (.int x4), some (.int x5), none], [.ref (fr x0 7), .long ((s0 + x4).toInt64)], σ)) r68_93 rfl rfl h1 <| (Er.call (vs := [.ref (fr x0 7)]) (rest := [.long ((s0 + x4).toInt64)]) r68_96 rfl rfl (Nat.le_of_ble_eq_true rfl) (Nat.le_of_ble_eq_true rfl) (fun _ => ⟨_, _, rfl, h2⟩) hy k)
theorem b68_99 {d : Nat} {q : Rs} {x0 : Nat} {x1 : Int64} {x3 : Int32} {x4 : Int32} {x5 : Int32} {s0 : Int64} {s1 : Int32} {σ : St} {σ2 : St} {r : Int32} 
    (hy : Er d 40 (0, ent 40 [.long s0, .long ((s1 + x5).toInt64)], [], σ) (.inl (some (.int r)), σ2, 0))
    (k : Er (d + 1) 68 (106, [some (.ref x0), some (.long x1), none, some (.int x3), some (.int x4), some (.int x5), none], [.int r], σ2) q) :
    Er (d + 1) 68 (99, [some (.ref x0), some (.long x1), none, some (.int x3), some (.int x4), some (.int x5), none], [.int s1, .long s0], σ) q := Er.sT (c2 := (101, [some (.ref x0), some (.long x1), none, some (.int x3), some (.int x4), some (.int x5), none], [.int x5, .int s1, .long s0], σ)) r68_99 rfl rfl <| Er.sT (c2 := (102, [some (.ref x0), some (.long x1), none, some (.int x3), some (.int x4), some (.int x5), none], [.int (s1 + x5), .long s0], σ)) r68_101 rfl rfl <| Er.sT (c2 := (103, [some (.ref x0), some (.long x1), none, some (.int x3), some (.int x4), some (.int x5), none], [.long ((s1 + x5).toInt64), .long s0], σ)) r68_102 rfl rfl <| (Er.call (vs := [.long s0, .long ((s1 + x5).toInt64)]) (rest := []) r68_103 rfl rfl (Nat.le_of_ble_eq_true rfl) (Nat.le_of_ble_eq_true rfl) (fun h => absurd h (by decide +kernel)) hy k)
theorem b68_106 {d : Nat} {q : Rs} {x0 : Nat} {x1 : Int64} {x3 : Int32} {x4 : Int32} {x5 : Int32} {s0 : Int32} {σ : St} 
    (kt : s0 = (0 : Int32) → Er (d + 1) 68 (116, [some (.ref x0), some (.long x1), none, some (.int x3), some (.int x4), some (.int x5), some (.int s0)], [], σ) q)
    (kf : ¬ s0 = (0 : Int32) → Er (d + 1) 68 (113, [some (.ref x0), some (.long x1), none, some (.int x3), some (.int x4), some (.int x5), some (.int s0)], [], σ) q) :
    Er (d + 1) 68 (106, [some (.ref x0), some (.long x1), none, some (.int x3), some (.int x4), some (.int x5), none], [.int s0], σ) q := Er.sT (c2 := (108, [some (.ref x0), some (.long x1), none, some (.int x3), some (.int x4), some (.int x5), some (.int s0)], [], σ)) r68_106 rfl rfl <| Er.sT (c2 := (110, [some (.ref x0), some (.long x1), none, some (.int x3), some (.int x4), some (.int x5), some (.int s0)], [.int s0], σ)) r68_108 rfl rfl <| Er.sT (c2 := (brn .eq s0 (0 : Int32) 116 113, [some (.ref x0), some (.long x1), none, some (.int x3), some (.int x4), some (.int x5), some (.int s0)], [], σ)) r68_110 rfl rfl <| (br_eq kt kf)
theorem b68_113 {d : Nat} {x0 : Nat} {x1 : Int64} {x3 : Int32} {x4 : Int32} {x5 : Int32} {x6 : Int32} {σ : St}  :
    Er (d + 1) 68 (113, [some (.ref x0), some (.long x1), none, some (.int x3), some (.int x4), some (.int x5), some (.int x6)], [], σ) (.inl (some (.int x6)), σ, 0) := Er.sT (c2 := (115, [some (.ref x0), some (.long x1), none, some (.int x3), some (.int x4), some (.int x5), some (.int x6)], [.int x6], σ)) r68_113 rfl rfl <| (Er.ret r68_115 rfl ⟨_, _, rfl, rfl, rfl, rfl⟩)
theorem b68_116 {d : Nat} {q : Rs} {x0 : Nat} {x1 : Int64} {x3 : Int32} {x4 : Int32} {x5 : Int32} {x6 : Int32} {σ : St} {σ2 : St}  (h1 : x0 < 24 ∧ kls x0 = 4) (h2 : (fr x0 6) < 24 ∧ kls (fr x0 6) = 2)
    (hy : Er d 22 (0, ent 22 [.ref (fr x0 6), .int x4], [], σ) (.inl none, σ2, 0))
    (k : Er (d + 1) 68 (125, [some (.ref x0), some (.long x1), none, some (.int x3), some (.int x4), some (.int x5), some (.int x6)], [], σ2) q) :
    Er (d + 1) 68 (116, [some (.ref x0), some (.long x1), none, some (.int x3), some (.int x4), some (.int x5), some (.int x6)], [], σ) q := Er.sT (c2 := (117, [some (.ref x0), some (.long x1), none, some (.int x3), some (.int x4), some (.int x5), some (.int x6)], [.ref x0], σ)) r68_116 rfl rfl <| Er.st (P := (x0 < 24 ∧ kls x0 = 4)) (c2 := (120, [some (.ref x0), some (.long x1), none, some (.int x3), some (.int x4), some (.int x5), some (.int x6)], [.ref (fr x0 6)], σ)) r68_117 rfl rfl h1 <| Er.sT (c2 := (122, [some (.ref x0), some (.long x1), none, some (.int x3), some (.int x4), some (.int x5), some (.int x6)], [.int x4, .ref (fr x0 6)], σ)) r68_120 rfl rfl <| (Er.call (vs := [.ref (fr x0 6), .int x4]) (rest := []) r68_122 rfl rfl (Nat.le_of_ble_eq_true rfl) (Nat.le_of_ble_eq_true rfl) (fun _ => ⟨_, _, rfl, h2⟩) hy k)
theorem b68_125 {d : Nat} {q : Rs} {x0 : Nat} {x1 : Int64} {x3 : Int32} {x4 : Int32} {x5 : Int32} {x6 : Int32} {σ : St} {σ2 : St}  (h1 : x0 < 24 ∧ kls x0 = 4) (h2 : (fr x0 7) < 24 ∧ kls (fr x0 7) = 2)
    (hy : Er d 22 (0, ent 22 [.ref (fr x0 7), .int x5], [], σ) (.inl none, σ2, 0))
    (k : Er (d + 1) 68 (134, [some (.ref x0), some (.long x1), none, some (.int x3), some (.int x4), some (.int x5), some (.int x6)], [], σ2) q) :
    Er (d + 1) 68 (125, [some (.ref x0), some (.long x1), none, some (.int x3), some (.int x4), some (.int x5), some (.int x6)], [], σ) q := Er.sT (c2 := (126, [some (.ref x0), some (.long x1), none, some (.int x3), some (.int x4), some (.int x5), some (.int x6)], [.ref x0], σ)) r68_125 rfl rfl <| Er.st (P := (x0 < 24 ∧ kls x0 = 4)) (c2 := (129, [some (.ref x0), some (.long x1), none, some (.int x3), some (.int x4), some (.int x5), some (.int x6)], [.ref (fr x0 7)], σ)) r68_126 rfl rfl h1 <| Er.sT (c2 := (131, [some (.ref x0), some (.long x1), none, some (.int x3), some (.int x4), some (.int x5), some (.int x6)], [.int x5, .ref (fr x0 7)], σ)) r68_129 rfl rfl <| (Er.call (vs := [.ref (fr x0 7), .int x5]) (rest := []) r68_131 rfl rfl (Nat.le_of_ble_eq_true rfl) (Nat.le_of_ble_eq_true rfl) (fun _ => ⟨_, _, rfl, h2⟩) hy k)
theorem b68_134 {d : Nat} {q : Rs} {x0 : Nat} {x1 : Int64} {x3 : Int32} {x4 : Int32} {x5 : Int32} {x6 : Int32} {σ : St} {σ2 : St} {r : Int32} (h1 : x0 < 24 ∧ kls x0 = 4) (h2 : (fr x0 6) < 24 ∧ kls (fr x0 6) = 2)
    (hy : Er d 20 (0, ent 20 [.ref (fr x0 6), .ref (fr x0 7)], [], σ) (.inl (some (.int r)), σ2, 0))
    (k : Er (d + 1) 68 (145, [some (.ref x0), some (.long x1), none, some (.int x3), some (.int x4), some (.int x5), some (.int x6)], [.int r], σ2) q) :
    Er (d + 1) 68 (134, [some (.ref x0), some (.long x1), none, some (.int x3), some (.int x4), some (.int x5), some (.int x6)], [], σ) q := Er.sT (c2 := (135, [some (.ref x0), some (.long x1), none, some (.int x3), some (.int x4), some (.int x5), some (.int x6)], [.ref x0], σ)) r68_134 rfl rfl <| Er.st (P := (x0 < 24 ∧ kls x0 = 4)) (c2 := (138, [some (.ref x0), some (.long x1), none, some (.int x3), some (.int x4), some (.int x5), some (.int x6)], [.ref (fr x0 6)], σ)) r68_135 rfl rfl h1 <| Er.sT (c2 := (139, [some (.ref x0), some (.long x1), none, some (.int x3), some (.int x4), some (.int x5), some (.int x6)], [.ref x0, .ref (fr x0 6)], σ)) r68_138 rfl rfl <| Er.st (P := (x0 < 24 ∧ kls x0 = 4)) (c2 := (142, [some (.ref x0), some (.long x1), none, some (.int x3), some (.int x4), some (.int x5), some (.int x6)], [.ref (fr x0 7), .ref (fr x0 6)], σ)) r68_139 rfl rfl h1 <| (Er.call (vs := [.ref (fr x0 6), .ref (fr x0 7)]) (rest := []) r68_142 rfl rfl (Nat.le_of_ble_eq_true rfl) (Nat.le_of_ble_eq_true rfl) (fun _ => ⟨_, _, rfl, h2⟩) hy k)
theorem b68_145 {d : Nat} {x0 : Nat} {x1 : Int64} {x3 : Int32} {x4 : Int32} {x5 : Int32} {x6 : Int32} {s0 : Int32} {σ : St}  :
    Er (d + 1) 68 (145, [some (.ref x0), some (.long x1), none, some (.int x3), some (.int x4), some (.int x5), some (.int x6)], [.int s0], σ) (.inl (some (.int s0)), σ, 0) := (Er.ret r68_145 rfl ⟨_, _, rfl, rfl, rfl, rfl⟩)
/-! NumberModels.nearest(II)J -/
theorem tab_69 : tab 69 = tb69_0 := rfl
theorem ch69_0 {j : Nat} {r : Row} (h : tb69_0[j]? = some r) : rowAt 69 r.1 = some r := row_mem 69 (by decide) (by rw [tab_69]; exact List.mem_of_getElem? h)
theorem r69_0 : rowAt 69 0 = some (r0 0 1 (.aload_n 0)) := ch69_0 (j := 0) rfl
theorem r69_1 : rowAt 69 1 = some (ra 1 2 (.iload_n 1) 1 0 0) := ch69_0 (j := 1) rfl
theorem r69_2 : rowAt 69 2 = some (ra 2 5 (.invokevirtual 123) 49 2 556) := ch69_0 (j := 2) rfl
theorem r69_5 : rowAt 69 5 = some (r0 5 6 (.aload_n 0)) := ch69_0 (j := 3) rfl
theorem r69_6 : rowAt 69 6 = some (ra 6 7 (.iload_n 2) 2 0 0) := ch69_0 (j := 4) rfl
theorem r69_7 : rowAt 69 7 = some (ra 7 10 (.invokevirtual 173) 70 2 743) := ch69_0 (j := 5) rfl
theorem r69_10 : rowAt 69 10 = some (r0 10 11 (.aload_n 0)) := ch69_0 (j := 6) rfl
theorem r69_11 : rowAt 69 11 = some (ra 11 12 (.iload_n 1) 1 0 0) := ch69_0 (j := 7) rfl
theorem r69_12 : rowAt 69 12 = some (r0 12 13 (.aload_n 0)) := ch69_0 (j := 8) rfl
theorem r69_13 : rowAt 69 13 = some (ra 13 16 (.getfield 20) 3 4 193) := ch69_0 (j := 9) rfl
theorem r69_16 : rowAt 69 16 = some (ra 16 19 (.invokevirtual 126) 50 3 576) := ch69_0 (j := 10) rfl
theorem r69_19 : rowAt 69 19 = some (r0 19 20 (.aload_n 0)) := ch69_0 (j := 11) rfl
theorem r69_20 : rowAt 69 20 = some (ra 20 23 (.getstatic 93) 46 0 494) := ch69_0 (j := 12) rfl
theorem r69_23 : rowAt 69 23 = some (ra 23 24 (.iload_n 2) 2 0 0) := ch69_0 (j := 13) rfl
theorem r69_24 : rowAt 69 24 = some (ra 24 27 (.invokevirtual 176) 71 3 748) := ch69_0 (j := 14) rfl
theorem r69_27 : rowAt 69 27 = some (r0 27 28 (.lreturn)) := ch69_0 (j := 15) rfl
theorem b69_0 {d : Nat} {q : Rs} {x0 : Nat} {x1 : Int32} {x2 : Int32} {σ : St} {σ2 : St}  (h1 : x0 < 24 ∧ kls x0 = 4)
    (hy : Er d 49 (0, ent 49 [.ref x0, .int x1], [], σ) (.inl none, σ2, 0))
    (k : Er (d + 1) 69 (5, [some (.ref x0), some (.int x1), some (.int x2)], [], σ2) q) :
    Er (d + 1) 69 (0, [some (.ref x0), some (.int x1), some (.int x2)], [], σ) q := Er.sT (c2 := (1, [some (.ref x0), some (.int x1), some (.int x2)], [.ref x0], σ)) r69_0 rfl rfl <| Er.sT (c2 := (2, [some (.ref x0), some (.int x1), some (.int x2)], [.int x1, .ref x0], σ)) r69_1 rfl rfl <| (Er.call (vs := [.ref x0, .int x1]) (rest := []) r69_2 rfl rfl (Nat.le_of_ble_eq_true rfl) (Nat.le_of_ble_eq_true rfl) (fun _ => ⟨_, _, rfl, h1⟩) hy k)
theorem b69_0x {d x c9 : Nat} {x0 : Nat} {x1 : Int32} {x2 : Int32} {σ : St} {σ2 : St} (h1 : x0 < 24 ∧ kls x0 = 4) (hx : x < 4)
    (hy : Er d 49 (0, ent 49 [.ref x0, .int x1], [], σ) (.inr x, σ2, c9)) :
    Er (d + 1) 69 (0, [some (.ref x0), some (.int x1), some (.int x2)], [], σ) (.inr x, σ2, c9) := Er.sT (c2 := (1, [some (.ref x0), some (.int x1), some (.int x2)], [.ref x0], σ)) r69_0 rfl rfl <| Er.sT (c2 := (2, [some (.ref x0), some (.int x1), some (.int x2)], [.int x1, .ref x0], σ)) r69_1 rfl rfl <| (Er.callx (vs := [.ref x0, .int x1]) (rest := []) r69_2 rfl rfl (Nat.le_of_ble_eq_true rfl) (Nat.le_of_ble_eq_true rfl) (fun _ => ⟨_, _, rfl, h1⟩) hx rfl rfl hy)
theorem b69_5 {d : Nat} {q : Rs} {x0 : Nat} {x1 : Int32} {x2 : Int32} {σ : St} {σ2 : St}  (h1 : x0 < 24 ∧ kls x0 = 4)
    (hy : Er d 70 (0, ent 70 [.ref x0, .int x2], [], σ) (.inl none, σ2, 0))
    (k : Er (d + 1) 69 (10, [some (.ref x0), some (.int x1), some (.int x2)], [], σ2) q) :
    Er (d + 1) 69 (5, [some (.ref x0), some (.int x1), some (.int x2)], [], σ) q := Er.sT (c2 := (6, [some (.ref x0), some (.int x1), some (.int x2)], [.ref x0], σ)) r69_5 rfl rfl <| Er.sT (c2 := (7, [some (.ref x0), some (.int x1), some (.int x2)], [.int x2, .ref x0], σ)) r69_6 rfl rfl <| (Er.call (vs := [.ref x0, .int x2]) (rest := []) r69_7 rfl rfl (Nat.le_of_ble_eq_true rfl) (Nat.le_of_ble_eq_true rfl) (fun _ => ⟨_, _, rfl, h1⟩) hy k)
theorem b69_5x {d x c9 : Nat} {x0 : Nat} {x1 : Int32} {x2 : Int32} {σ : St} {σ2 : St} (h1 : x0 < 24 ∧ kls x0 = 4) (hx : x < 4)
    (hy : Er d 70 (0, ent 70 [.ref x0, .int x2], [], σ) (.inr x, σ2, c9)) :
    Er (d + 1) 69 (5, [some (.ref x0), some (.int x1), some (.int x2)], [], σ) (.inr x, σ2, c9) := Er.sT (c2 := (6, [some (.ref x0), some (.int x1), some (.int x2)], [.ref x0], σ)) r69_5 rfl rfl <| Er.sT (c2 := (7, [some (.ref x0), some (.int x1), some (.int x2)], [.int x2, .ref x0], σ)) r69_6 rfl rfl <| (Er.callx (vs := [.ref x0, .int x2]) (rest := []) r69_7 rfl rfl (Nat.le_of_ble_eq_true rfl) (Nat.le_of_ble_eq_true rfl) (fun _ => ⟨_, _, rfl, h1⟩) hx rfl rfl hy)
theorem b69_10 {d : Nat} {q : Rs} {x0 : Nat} {x1 : Int32} {x2 : Int32} {σ : St} {σ2 : St}  (h1 : x0 < 24 ∧ kls x0 = 4)
    (hy : Er d 50 (0, ent 50 [.ref x0, .int x1, .ref (fr x0 3)], [], σ) (.inl none, σ2, 0))
    (k : Er (d + 1) 69 (19, [some (.ref x0), some (.int x1), some (.int x2)], [], σ2) q) :
    Er (d + 1) 69 (10, [some (.ref x0), some (.int x1), some (.int x2)], [], σ) q := Er.sT (c2 := (11, [some (.ref x0), some (.int x1), some (.int x2)], [.ref x0], σ)) r69_10 rfl rfl <| Er.sT (c2 := (12, [some (.ref x0), some (.int x1), some (.int x2)], [.int x1, .ref x0], σ)) r69_11 rfl rfl <| Er.sT (c2 := (13, [some (.ref x0), some (.int x1), some (.int x2)], [.ref x0, .int x1, .ref x0], σ)) r69_12 rfl rfl <| Er.st (P := (x0 < 24 ∧ kls x0 = 4)) (c2 := (16, [some (.ref x0), some (.int x1), some (.int x2)], [.ref (fr x0 3), .int x1, .ref x0], σ)) r69_13 rfl rfl h1 <| (Er.call (vs := [.ref x0, .int x1, .ref (fr x0 3)]) (rest := []) r69_16 rfl rfl (Nat.le_of_ble_eq_true rfl) (Nat.le_of_ble_eq_true rfl) (fun _ => ⟨_, _, rfl, h1⟩) hy k)
theorem b69_19 {d : Nat} {q : Rs} {x0 : Nat} {x1 : Int32} {x2 : Int32} {σ : St} {σ2 : St} {r : Int64} (h1 : x0 < 24 ∧ kls x0 = 4)
    (hy : Er d 71 (0, ent 71 [.ref x0, .ref 46, .int x2], [], σ) (.inl (some (.long r)), σ2, 0))
    (k : Er (d + 1) 69 (27, [some (.ref x0), some (.int x1), some (.int x2)], [.long r], σ2) q) :
    Er (d + 1) 69 (19, [some (.ref x0), some (.int x1), some (.int x2)], [], σ) q := Er.sT (c2 := (20, [some (.ref x0), some (.int x1), some (.int x2)], [.ref x0], σ)) r69_19 rfl rfl <| Er.sT (c2 := (23, [some (.ref x0), some (.int x1), some (.int x2)], [.ref 46, .ref x0], σ)) r69_20 rfl rfl <| Er.sT (c2 := (24, [some (.ref x0), some (.int x1), some (.int x2)], [.int x2, .ref 46, .ref x0], σ)) r69_23 rfl rfl <| (Er.call (vs := [.ref x0, .ref 46, .int x2]) (rest := []) r69_24 rfl rfl (Nat.le_of_ble_eq_true rfl) (Nat.le_of_ble_eq_true rfl) (fun _ => ⟨_, _, rfl, h1⟩) hy k)
theorem b69_27 {d : Nat} {x0 : Nat} {x1 : Int32} {x2 : Int32} {s0 : Int64} {σ : St}  :
    Er (d + 1) 69 (27, [some (.ref x0), some (.int x1), some (.int x2)], [.long s0], σ) (.inl (some (.long s0)), σ, 0) := (Er.ret r69_27 rfl ⟨_, rfl, rfl, rfl⟩)
/-! NumberModels.needDirection(I)V -/
theorem tab_70 : tab 70 = tb70_0 := rfl
theorem ch70_0 {j : Nat} {r : Row} (h : tb70_0[j]? = some r) : rowAt 70 r.1 = some r := row_mem 70 (by decide) (by rw [tab_70]; exact List.mem_of_getElem? h)
theorem r70_0 : rowAt 70 0 = some (ra 0 1 (.iload_n 1) 1 0 0) := ch70_0 (j := 0) rfl
theorem r70_1 : rowAt 70 1 = some (ra 1 4 (.ifCond .lt 8) 9 0 0) := ch70_0 (j := 1) rfl
theorem r70_4 : rowAt 70 4 = some (ra 4 5 (.iload_n 1) 1 0 0) := ch70_0 (j := 2) rfl
theorem r70_5 : rowAt 70 5 = some (5, 6, .iconst 3, 0, 0, 0, 3, 0) := ch70_0 (j := 3) rfl
theorem r70_6 : rowAt 70 6 = some (ra 6 9 (.if_icmp .le 13) 19 0 0) := ch70_0 (j := 4) rfl
theorem r70_9 : rowAt 70 9 = some (ra 9 12 (.new 147) 1 10 594) := ch70_0 (j := 5) rfl
theorem r70_19 : rowAt 70 19 = some (r0 19 20 (.return_)) := ch70_0 (j := 6) rfl
theorem b70_0 {d : Nat} {q : Rs} {x0 : Nat} {x1 : Int32} {σ : St} 
    (kt : x1 < (0 : Int32) → Er (d + 1) 70 (9, [some (.ref x0), some (.int x1)], [], σ) q)
    (kf : ¬ x1 < (0 : Int32) → Er (d + 1) 70 (4, [some (.ref x0), some (.int x1)], [], σ) q) :
    Er (d + 1) 70 (0, [some (.ref x0), some (.int x1)], [], σ) q := Er.sT (c2 := (1, [some (.ref x0), some (.int x1)], [.int x1], σ)) r70_0 rfl rfl <| Er.sT (c2 := (brn .lt x1 (0 : Int32) 9 4, [some (.ref x0), some (.int x1)], [], σ)) r70_1 rfl rfl <| (br_lt kt kf)
theorem b70_4 {d : Nat} {q : Rs} {x0 : Nat} {x1 : Int32} {σ : St} 
    (kt : x1 ≤ (3 : Int32) → Er (d + 1) 70 (19, [some (.ref x0), some (.int x1)], [], σ) q)
    (kf : ¬ x1 ≤ (3 : Int32) → Er (d + 1) 70 (9, [some (.ref x0), some (.int x1)], [], σ) q) :
    Er (d + 1) 70 (4, [some (.ref x0), some (.int x1)], [], σ) q := Er.sT (c2 := (5, [some (.ref x0), some (.int x1)], [.int x1], σ)) r70_4 rfl rfl <| Er.sT (c2 := (6, [some (.ref x0), some (.int x1)], [.int (3 : Int32), .int x1], σ)) r70_5 rfl rfl <| Er.sT (c2 := (brn .le x1 (3 : Int32) 19 9, [some (.ref x0), some (.int x1)], [], σ)) r70_6 rfl rfl <| (br_le kt kf)
theorem b70_9 {d : Nat} {x0 : Nat} {x1 : Int32} {σ : St}  :
    Er (d + 6) 70 (9, [some (.ref x0), some (.int x1)], [], σ) (.inr 1, σ, 1) := (Er.thr r70_9 rfl rfl)
theorem b70_19 {d : Nat} {x0 : Nat} {x1 : Int32} {σ : St}  :
    Er (d + 1) 70 (19, [some (.ref x0), some (.int x1)], [], σ) (.inl none, σ, 0) := (Er.ret r70_19 rfl ⟨rfl, rfl, rfl⟩)
/-! NumberModels.formatRead(LNumberModels$Format;I)J -/
theorem tab_71 : tab 71 = tb71_0 ++ tb71_1 := rfl
theorem ch71_0 {j : Nat} {r : Row} (h : tb71_0[j]? = some r) : rowAt 71 r.1 = some r := row_mem 71 (by decide) (by rw [tab_71]; exact (List.mem_append_left _ (List.mem_of_getElem? h)))
theorem ch71_1 {j : Nat} {r : Row} (h : tb71_1[j]? = some r) : rowAt 71 r.1 = some r := row_mem 71 (by decide) (by rw [tab_71]; exact (List.mem_append_right _ (List.mem_of_getElem? h)))
theorem r71_0 : rowAt 71 0 = some (r0 0 1 (.aload_n 0)) := ch71_0 (j := 0) rfl
theorem r71_1 : rowAt 71 1 = some (ra 1 4 (.getfield 20) 3 4 193) := ch71_0 (j := 1) rfl
theorem r71_4 : rowAt 71 4 = some (ra 4 7 (.getfield 62) 2 3 126) := ch71_0 (j := 2) rfl
theorem r71_7 : rowAt 71 7 = some (ra 7 10 (.ifCond .ne 5) 12 0 0) := ch71_0 (j := 3) rfl
theorem r71_10 : rowAt 71 10 = some (r0 10 11 (.lconst 0)) := ch71_0 (j := 4) rfl
theorem r71_11 : rowAt 71 11 = some (r0 11 12 (.lreturn)) := ch71_0 (j := 5) rfl
theorem r71_12 : rowAt 71 12 = some (12, 14, .bipush 55, 0, 0, 0, 55, 0) := ch71_0 (j := 6) rfl
theorem r71_14 : rowAt 71 14 = some (r0 14 15 (.aload_n 0)) := ch71_0 (j := 7) rfl
theorem r71_15 : rowAt 71 15 = some (ra 15 18 (.getfield 20) 3 4 193) := ch71_0 (j := 8) rfl
theorem r71_18 : rowAt 71 18 = some (ra 18 21 (.getfield 65) 0 3 122) := ch71_0 (j := 9) rfl
theorem r71_21 : rowAt 71 21 = some (ra 21 24 (.invokevirtual 144) 14 1 333) := ch71_0 (j := 10) rfl
theorem r71_24 : rowAt 71 24 = some (r0 24 25 (.aload_n 0)) := ch71_0 (j := 11) rfl
theorem r71_25 : rowAt 71 25 = some (ra 25 28 (.getfield 20) 3 4 193) := ch71_0 (j := 12) rfl
theorem r71_28 : rowAt 71 28 = some (ra 28 31 (.getfield 76) 1 3 124) := ch71_0 (j := 13) rfl
theorem r71_31 : rowAt 71 31 = some (ra 31 34 (.invokevirtual 144) 14 1 333) := ch71_0 (j := 14) rfl
theorem r71_34 : rowAt 71 34 = some (r0 34 35 (.isub)) := ch71_0 (j := 15) rfl
theorem r71_35 : rowAt 71 35 = some (r0 35 36 (.isub)) := ch71_0 (j := 16) rfl
theorem r71_36 : rowAt 71 36 = some (ra 36 37 (.istore_n 3) 3 0 0) := ch71_0 (j := 17) rfl
theorem r71_37 : rowAt 71 37 = some (r0 37 38 (.aload_n 0)) := ch71_0 (j := 18) rfl
theorem r71_38 : rowAt 71 38 = some (ra 38 41 (.getfield 33) 6 4 196) := ch71_0 (j := 19) rfl
theorem r71_41 : rowAt 71 41 = some (r0 41 42 (.aload_n 0)) := ch71_0 (j := 20) rfl
theorem r71_42 : rowAt 71 42 = some (ra 42 45 (.getfield 20) 3 4 193) := ch71_0 (j := 21) rfl
theorem r71_45 : rowAt 71 45 = some (ra 45 48 (.getfield 65) 0 3 122) := ch71_0 (j := 22) rfl
theorem r71_48 : rowAt 71 48 = some (ra 48 51 (.invokevirtual 297) 19 2 486) := ch71_0 (j := 23) rfl
theorem r71_51 : rowAt 71 51 = some (r0 51 52 (.aload_n 0)) := ch71_0 (j := 24) rfl
theorem r71_52 : rowAt 71 52 = some (ra 52 55 (.getfield 33) 6 4 196) := ch71_0 (j := 25) rfl
theorem r71_55 : rowAt 71 55 = some (ra 55 56 (.iload_n 3) 3 0 0) := ch71_0 (j := 26) rfl
theorem r71_56 : rowAt 71 56 = some (r0 56 57 (.iconst 0)) := ch71_0 (j := 27) rfl
theorem r71_57 : rowAt 71 57 = some (ra 57 60 (.invokestatic 319) 991 2 734) := ch71_0 (j := 28) rfl
theorem r71_60 : rowAt 71 60 = some (ra 60 63 (.invokevirtual 325) 22 2 735) := ch71_0 (j := 29) rfl
theorem r71_63 : rowAt 71 63 = some (r0 63 64 (.aload_n 0)) := ch71_0 (j := 30) rfl
theorem r71_64 : rowAt 71 64 = some (ra 64 67 (.getfield 37) 7 4 197) := ch71_0 (j := 31) rfl
theorem r71_67 : rowAt 71 67 = some (r0 67 68 (.aload_n 0)) := ch71_0 (j := 32) rfl
theorem r71_68 : rowAt 71 68 = some (ra 68 71 (.getfield 20) 3 4 193) := ch71_0 (j := 33) rfl
theorem r71_71 : rowAt 71 71 = some (ra 71 74 (.getfield 76) 1 3 124) := ch71_0 (j := 34) rfl
theorem r71_74 : rowAt 71 74 = some (ra 74 77 (.invokevirtual 297) 19 2 486) := ch71_0 (j := 35) rfl
theorem r71_77 : rowAt 71 77 = some (r0 77 78 (.aload_n 0)) := ch71_0 (j := 36) rfl
theorem r71_78 : rowAt 71 78 = some (ra 78 81 (.getfield 37) 7 4 197) := ch71_0 (j := 37) rfl
theorem r71_81 : rowAt 71 81 = some (ra 81 82 (.iload_n 3) 3 0 0) := ch71_0 (j := 38) rfl
theorem r71_82 : rowAt 71 82 = some (r0 82 83 (.ineg)) := ch71_0 (j := 39) rfl
theorem r71_83 : rowAt 71 83 = some (r0 83 84 (.iconst 0)) := ch71_0 (j := 40) rfl
theorem r71_84 : rowAt 71 84 = some (ra 84 87 (.invokestatic 319) 991 2 734) := ch71_0 (j := 41) rfl
theorem r71_87 : rowAt 71 87 = some (ra 87 90 (.invokevirtual 325) 22 2 735) := ch71_0 (j := 42) rfl
theorem r71_90 : rowAt 71 90 = some (r0 90 91 (.aload_n 0)) := ch71_0 (j := 43) rfl
theorem r71_91 : rowAt 71 91 = some (ra 91 94 (.getfield 43) 8 4 198) := ch71_0 (j := 44) rfl
theorem r71_94 : rowAt 71 94 = some (r0 94 95 (.aload_n 0)) := ch71_0 (j := 45) rfl
theorem r71_95 : rowAt 71 95 = some (ra 95 98 (.getfield 33) 6 4 196) := ch71_0 (j := 46) rfl
theorem r71_98 : rowAt 71 98 = some (r0 98 99 (.aload_n 0)) := ch71_0 (j := 47) rfl
theorem r71_99 : rowAt 71 99 = some (ra 99 102 (.getfield 37) 7 4 197) := ch71_0 (j := 48) rfl
theorem r71_102 : rowAt 71 102 = some (ra 102 105 (.invokevirtual 152) 6 3 485) := ch71_0 (j := 49) rfl
theorem r71_105 : rowAt 71 105 = some (r0 105 106 (.aload_n 0)) := ch71_0 (j := 50) rfl
theorem r71_106 : rowAt 71 106 = some (ra 106 109 (.getfield 43) 8 4 198) := ch71_0 (j := 51) rfl
theorem r71_109 : rowAt 71 109 = some (ra 109 112 (.getfield 304) 1 1 148) := ch71_0 (j := 52) rfl
theorem r71_112 : rowAt 71 112 = some (ra 112 115 (.invokevirtual 108) 17 1 513) := ch71_0 (j := 53) rfl
theorem r71_115 : rowAt 71 115 = some (ra 115 118 (.ifCond .ne 7) 122 0 0) := ch71_0 (j := 54) rfl
theorem r71_118 : rowAt 71 118 = some (118, 119, .iconst 1, 0, 0, 0, 1, 0) := ch71_0 (j := 55) rfl
theorem r71_119 : rowAt 71 119 = some (ra 119 122 (.goto 4) 123 0 0) := ch71_0 (j := 56) rfl
theorem r71_122 : rowAt 71 122 = some (r0 122 123 (.iconst 0)) := ch71_0 (j := 57) rfl
theorem r71_123 : rowAt 71 123 = some (ra 123 125 (.istore 4) 4 0 0) := ch71_0 (j := 58) rfl
theorem r71_125 : rowAt 71 125 = some (ra 125 126 (.aload_n 1) 1 0 0) := ch71_0 (j := 59) rfl
theorem r71_126 : rowAt 71 126 = some (r0 126 127 (.aload_n 0)) := ch71_1 (j := 0) rfl
theorem r71_127 : rowAt 71 127 = some (ra 127 130 (.getfield 20) 3 4 193) := ch71_1 (j := 1) rfl
theorem r71_130 : rowAt 71 130 = some (ra 130 133 (.getfield 62) 2 3 126) := ch71_1 (j := 2) rfl
theorem r71_133 : rowAt 71 133 = some (ra 133 136 (.ifCond .ge 7) 140 0 0) := ch71_1 (j := 3) rfl
theorem r71_136 : rowAt 71 136 = some (136, 137, .iconst 1, 0, 0, 0, 1, 0) := ch71_1 (j := 4) rfl
theorem r71_137 : rowAt 71 137 = some (ra 137 140 (.goto 4) 141 0 0) := ch71_1 (j := 5) rfl
theorem r71_140 : rowAt 71 140 = some (r0 140 141 (.iconst 0)) := ch71_1 (j := 6) rfl
theorem r71_141 : rowAt 71 141 = some (r0 141 142 (.aload_n 0)) := ch71_1 (j := 7) rfl
theorem r71_142 : rowAt 71 142 = some (ra 142 145 (.getfield 43) 8 4 198) := ch71_1 (j := 8) rfl
theorem r71_145 : rowAt 71 145 = some (ra 145 148 (.getfield 156) 0 1 145) := ch71_1 (j := 9) rfl
theorem r71_148 : rowAt 71 148 = some (ra 148 151 (.invokevirtual 159) 24 1 663) := ch71_1 (j := 10) rfl
theorem r71_151 : rowAt 71 151 = some (ra 151 152 (.iload_n 3) 3 0 0) := ch71_1 (j := 11) rfl
theorem r71_152 : rowAt 71 152 = some (r0 152 153 (.ineg)) := ch71_1 (j := 12) rfl
theorem r71_153 : rowAt 71 153 = some (ra 153 155 (.iload 4) 4 0 0) := ch71_1 (j := 13) rfl
theorem r71_155 : rowAt 71 155 = some (ra 155 156 (.iload_n 2) 2 0 0) := ch71_1 (j := 14) rfl
theorem r71_156 : rowAt 71 156 = some (ra 156 159 (.invokevirtual 328) 148 6 752) := ch71_1 (j := 15) rfl
theorem r71_159 : rowAt 71 159 = some (r0 159 160 (.lreturn)) := ch71_1 (j := 16) rfl
theorem b71_0 {d : Nat} {q : Rs} {x0 : Nat} {x1 : Nat} {x2 : Int32} {σ : St} (h1 : x0 < 24 ∧ kls x0 = 4) (h2 : (fr x0 3) < 24 ∧ kls (fr x0 3) = 3)
    (kt : ¬ (gfi σ (fr x0 3) 2) = (0 : Int32) → Er (d + 1) 71 (12, [some (.ref x0), some (.ref x1), some (.int x2), none, none], [], σ) q)
    (kf : (gfi σ (fr x0 3) 2) = (0 : Int32) → Er (d + 1) 71 (10, [some (.ref x0), some (.ref x1), some (.int x2), none, none], [], σ) q) :
    Er (d + 1) 71 (0, [some (.ref x0), some (.ref x1), some (.int x2), none, none], [], σ) q := Er.sT (c2 := (1, [some (.ref x0), some (.ref x1), some (.int x2), none, none], [.ref x0], σ)) r71_0 rfl rfl <| Er.st (P := (x0 < 24 ∧ kls x0 = 4)) (c2 := (4, [some (.ref x0), some (.ref x1), some (.int x2), none, none], [.ref (fr x0 3)], σ)) r71_1 rfl rfl h1 <| Er.st (P := ((fr x0 3) < 24 ∧ kls (fr x0 3) = 3)) (c2 := (7, [some (.ref x0), some (.ref x1), some (.int x2), none, none], [.int (gfi σ (fr x0 3) 2)], σ)) r71_4 rfl rfl h2 <| Er.sT (c2 := (brn .ne (gfi σ (fr x0 3) 2) (0 : Int32) 12 10, [some (.ref x0), some (.ref x1), some (.int x2), none, none], [], σ)) r71_7 rfl rfl <| (br_ne kt kf)
theorem b71_10 {d : Nat} {x0 : Nat} {x1 : Nat} {x2 : Int32} {σ : St}  :
    Er (d + 1) 71 (10, [some (.ref x0), some (.ref x1), some (.int x2), none, none], [], σ) (.inl (some (.long (0 : Int64))), σ, 0) := Er.sT (c2 := (11, [some (.ref x0), some (.ref x1), some (.int x2), none, none], [.long (0 : Int64)], σ)) r71_10 rfl rfl <| (Er.ret r71_11 rfl ⟨_, rfl, rfl, rfl⟩)
theorem b71_12 {d : Nat} {q : Rs} {x0 : Nat} {x1 : Nat} {x2 : Int32} {σ : St} {σ2 : St} {r : Int32} (h1 : x0 < 24 ∧ kls x0 = 4) (h2 : (fr x0 3) < 24 ∧ kls (fr x0 3) = 3) (h3 : (fr (fr x0 3) 0) < 24 ∧ kls (fr (fr x0 3) 0) = 2)
    (hy : Er d 14 (0, ent 14 [.ref (fr (fr x0 3) 0)], [], σ) (.inl (some (.int r)), σ2, 0))
    (k : Er (d + 1) 71 (24, [some (.ref x0), some (.ref x1), some (.int x2), none, none], [.int r, .int (55 : Int32)], σ2) q) :
    Er (d + 1) 71 (12, [some (.ref x0), some (.ref x1), some (.int x2), none, none], [], σ) q := Er.sT (c2 := (14, [some (.ref x0), some (.ref x1), some (.int x2), none, none], [.int (55 : Int32)], σ)) r71_12 rfl rfl <| Er.sT (c2 := (15, [some (.ref x0), some (.ref x1), some (.int x2), none, none], [.ref x0, .int (55 : Int32)], σ)) r71_14 rfl rfl <| Er.st (P := (x0 < 24 ∧ kls x0 = 4)) (c2 := (18, [some (.ref x0), some (.ref x1), some (.int x2), none, none], [.ref (fr x0 3), .int (55 : Int32)], σ)) r71_15 rfl rfl h1 <| Er.st (P := ((fr x0 3) < 24 ∧ kls (fr x0 3) = 3)) (c2 := (21, [some (.ref x0), some (.ref x1), some (.int x2), none, none], [.ref (fr (fr x0 3) 0), .int (55 : Int32)], σ)) r71_18 rfl rfl h2 <| (Er.call (vs := [.ref (fr (fr x0 3) 0)]) (rest := [.int (55 : Int32)]) r71_21 rfl rfl (Nat.le_of_ble_eq_true rfl) (Nat.le_of_ble_eq_true rfl) (fun _ => ⟨_, _, rfl, h3⟩) hy k)
theorem b71_24 {d : Nat} {q : Rs} {x0 : Nat} {x1 : Nat} {x2 : Int32} {s0 : Int32} {s1 : Int32} {σ : St} {σ2 : St} {r : Int32} (h1 : x0 < 24 ∧ kls x0 = 4) (h2 : (fr x0 3) < 24 ∧ kls (fr x0 3) = 3) (h3 : (fr (fr x0 3) 1) < 24 ∧ kls (fr (fr x0 3) 1) = 2)
    (hy : Er d 14 (0, ent 14 [.ref (fr (fr x0 3) 1)], [], σ) (.inl (some (.int r)), σ2, 0))
    (k : Er (d + 1) 71 (34, [some (.ref x0), some (.ref x1), some (.int x2), none, none], [.int r, .int s1, .int s0], σ2) q) :
    Er (d + 1) 71 (24, [some (.ref x0), some (.ref x1), some (.int x2), none, none], [.int s1, .int s0], σ) q := Er.sT (c2 := (25, [some (.ref x0), some (.ref x1), some (.int x2), none, none], [.ref x0, .int s1, .int s0], σ)) r71_24 rfl rfl <| Er.st (P := (x0 < 24 ∧ kls x0 = 4)) (c2 := (28, [some (.ref x0), some (.ref x1), some (.int x2), none, none], [.ref (fr x0 3), .int s1, .int s0], σ)) r71_25 rfl rfl h1 <| Er.st (P := ((fr x0 3) < 24 ∧ kls (fr x0 3) = 3)) (c2 := (31, [some (.ref x0), some (.ref x1), some (.int x2), none, none], [.ref (fr (fr x0 3) 1), .int s1, .int s0], σ)) r71_28 rfl rfl h2 <| (Er.call (vs := [.ref (fr (fr x0 3) 1)]) (rest := [.int s1, .int s0]) r71_31 rfl rfl (Nat.le_of_ble_eq_true rfl) (Nat.le_of_ble_eq_true rfl) (fun _ => ⟨_, _, rfl, h3⟩) hy k)
theorem b71_34 {d : Nat} {q : Rs} {x0 : Nat} {x1 : Nat} {x2 : Int32} {s0 : Int32} {s1 : Int32} {s2 : Int32} {σ : St} {σ2 : St}  (h1 : x0 < 24 ∧ kls x0 = 4) (h2 : (fr x0 3) < 24 ∧ kls (fr x0 3) = 3) (h3 : (fr x0 6) < 24 ∧ kls (fr x0 6) = 2)
    (hy : Er d 19 (0, ent 19 [.ref (fr x0 6), .ref (fr (fr x0 3) 0)], [], σ) (.inl none, σ2, 0))
    (k : Er (d + 1) 71 (51, [some (.ref x0), some (.ref x1), some (.int x2), some (.int (s0 - (s1 - s2))), none], [], σ2) q) :
    Er (d + 1) 71 (34, [some (.ref x0), some (.ref x1), some (.int x2), none, none], [.int s2, .int s1, .int s0], σ) q := Er.sT (c2 := (35, [some (.ref x0), some (.ref x1), some (.int x2), none, none], [.int (s1 - s2), .int s0], σ)) r71_34 rfl rfl <| Er.sT (c2 := (36, [some (.ref x0), some (.ref x1), some (.int x2), none, none], [.int (s0 - (s1 - s2))], σ)) r71_35 rfl rfl <| Er.sT (c2 := (37, [some (.ref x0), some (.ref x1), some (.int x2), some (.int (s0 - (s1 - s2))), none], [], σ)) r71_36 rfl rfl <| Er.sT (c2 := (38, [some (.ref x0), some (.ref x1), some (.int x2), some (.int (s0 - (s1 - s2))), none], [.ref x0], σ)) r71_37 rfl rfl <| Er.st (P := (x0 < 24 ∧ kls x0 = 4)) (c2 := (41, [some (.ref x0), some (.ref x1), some (.int x2), some (.int (s0 - (s1 - s2))), none], [.ref (fr x0 6)], σ)) r71_38 rfl rfl h1 <| Er.sT (c2 := (42, [some (.ref x0), some (.ref x1), some (.int x2), some (.int (s0 - (s1 - s2))), none], [.ref x0, .ref (fr x0 6)], σ)) r71_41 rfl rfl <| Er.st (P := (x0 < 24 ∧ kls x0 = 4)) (c2 := (45, [some (.ref x0), some (.ref x1), some (.int x2), some (.int (s0 - (s1 - s2))), none], [.ref (fr x0 3), .ref (fr x0 6)], σ)) r71_42 rfl rfl h1 <| Er.st (P := ((fr x0 3) < 24 ∧ kls (fr x0 3) = 3)) (c2 := (48, [some (.ref x0), some (.ref x1), some (.int x2), some (.int (s0 - (s1 - s2))), none], [.ref (fr (fr x0 3) 0), .ref (fr x0 6)], σ)) r71_45 rfl rfl h2 <| (Er.call (vs := [.ref (fr x0 6), .ref (fr (fr x0 3) 0)]) (rest := []) r71_48 rfl rfl (Nat.le_of_ble_eq_true rfl) (Nat.le_of_ble_eq_true rfl) (fun _ => ⟨_, _, rfl, h3⟩) hy k)
theorem b71_51 {d : Nat} {q : Rs} {x0 : Nat} {x1 : Nat} {x2 : Int32} {x3 : Int32} {σ : St} {σ2 : St}  (h1 : x0 < 24 ∧ kls x0 = 4) (h2 : (fr x0 6) < 24 ∧ kls (fr x0 6) = 2)
    (hy : Er d 22 (0, ent 22 [.ref (fr x0 6), .int (if x3 < (0 : Int32) then (0 : Int32) else x3)], [], σ) (.inl none, σ2, 0))
    (k : Er (d + 1) 71 (63, [some (.ref x0), some (.ref x1), some (.int x2), some (.int x3), none], [], σ2) q) :
    Er (d + 1) 71 (51, [some (.ref x0), some (.ref x1), some (.int x2), some (.int x3), none], [], σ) q := Er.sT (c2 := (52, [some (.ref x0), some (.ref x1), some (.int x2), some (.int x3), none], [.ref x0], σ)) r71_51 rfl rfl <| Er.st (P := (x0 < 24 ∧ kls x0 = 4)) (c2 := (55, [some (.ref x0), some (.ref x1), some (.int x2), some (.int x3), none], [.ref (fr x0 6)], σ)) r71_52 rfl rfl h1 <| Er.sT (c2 := (56, [some (.ref x0), some (.ref x1), some (.int x2), some (.int x3), none], [.int x3, .ref (fr x0 6)], σ)) r71_55 rfl rfl <| Er.sT (c2 := (57, [some (.ref x0), some (.ref x1), some (.int x2), some (.int x3), none], [.int (0 : Int32), .int x3, .ref (fr x0 6)], σ)) r71_56 rfl rfl <| Er.st (P := ((([.ref (fr x0 6)] : List Value).map fun v => v.category).sum ≤ 8)) (c2 := (60, [some (.ref x0), some (.ref x1), some (.int x2), some (.int x3), none], [.int (if x3 < (0 : Int32) then (0 : Int32) else x3), .ref (fr x0 6)], σ)) r71_57 rfl rfl (Nat.le_of_ble_eq_true rfl) <| (Er.call (vs := [.ref (fr x0 6), .int (if x3 < (0 : Int32) then (0 : Int32) else x3)]) (rest := []) r71_60 rfl rfl (Nat.le_of_ble_eq_true rfl) (Nat.le_of_ble_eq_true rfl) (fun _ => ⟨_, _, rfl, h2⟩) hy k)
theorem b71_63 {d : Nat} {q : Rs} {x0 : Nat} {x1 : Nat} {x2 : Int32} {x3 : Int32} {σ : St} {σ2 : St}  (h1 : x0 < 24 ∧ kls x0 = 4) (h2 : (fr x0 3) < 24 ∧ kls (fr x0 3) = 3) (h3 : (fr x0 7) < 24 ∧ kls (fr x0 7) = 2)
    (hy : Er d 19 (0, ent 19 [.ref (fr x0 7), .ref (fr (fr x0 3) 1)], [], σ) (.inl none, σ2, 0))
    (k : Er (d + 1) 71 (77, [some (.ref x0), some (.ref x1), some (.int x2), some (.int x3), none], [], σ2) q) :
    Er (d + 1) 71 (63, [some (.ref x0), some (.ref x1), some (.int x2), some (.int x3), none], [], σ) q := Er.sT (c2 := (64, [some (.ref x0), some (.ref x1), some (.int x2), some (.int x3), none], [.ref x0], σ)) r71_63 rfl rfl <| Er.st (P := (x0 < 24 ∧ kls x0 = 4)) (c2 := (67, [some (.ref x0), some (.ref x1), some (.int x2), some (.int x3), none], [.ref (fr x0 7)], σ)) r71_64 rfl rfl h1 <| Er.sT (c2 := (68, [some (.ref x0), some (.ref x1), some (.int x2), some (.int x3), none], [.ref x0, .ref (fr x0 7)], σ)) r71_67 rfl rfl <| Er.st (P := (x0 < 24 ∧ kls x0 = 4)) (c2 := (71, [some (.ref x0), some (.ref x1), some (.int x2), some (.int x3), none], [.ref (fr x0 3), .ref (fr x0 7)], σ)) r71_68 rfl rfl h1 <| Er.st (P := ((fr x0 3) < 24 ∧ kls (fr x0 3) = 3)) (c2 := (74, [some (.ref x0), some (.ref x1), some (.int x2), some (.int x3), none], [.ref (fr (fr x0 3) 1), .ref (fr x0 7)], σ)) r71_71 rfl rfl h2 <| (Er.call (vs := [.ref (fr x0 7), .ref (fr (fr x0 3) 1)]) (rest := []) r71_74 rfl rfl (Nat.le_of_ble_eq_true rfl) (Nat.le_of_ble_eq_true rfl) (fun _ => ⟨_, _, rfl, h3⟩) hy k)
theorem b71_77 {d : Nat} {q : Rs} {x0 : Nat} {x1 : Nat} {x2 : Int32} {x3 : Int32} {σ : St} {σ2 : St}  (h1 : x0 < 24 ∧ kls x0 = 4) (h2 : (fr x0 7) < 24 ∧ kls (fr x0 7) = 2)
    (hy : Er d 22 (0, ent 22 [.ref (fr x0 7), .int (if (-x3) < (0 : Int32) then (0 : Int32) else (-x3))], [], σ) (.inl none, σ2, 0))
    (k : Er (d + 1) 71 (90, [some (.ref x0), some (.ref x1), some (.int x2), some (.int x3), none], [], σ2) q) :
    Er (d + 1) 71 (77, [some (.ref x0), some (.ref x1), some (.int x2), some (.int x3), none], [], σ) q := Er.sT (c2 := (78, [some (.ref x0), some (.ref x1), some (.int x2), some (.int x3), none], [.ref x0], σ)) r71_77 rfl rfl <| Er.st (P := (x0 < 24 ∧ kls x0 = 4)) (c2 := (81, [some (.ref x0), some (.ref x1), some (.int x2), some (.int x3), none], [.ref (fr x0 7)], σ)) r71_78 rfl rfl h1 <| Er.sT (c2 := (82, [some (.ref x0), some (.ref x1), some (.int x2), some (.int x3), none], [.int x3, .ref (fr x0 7)], σ)) r71_81 rfl rfl <| Er.sT (c2 := (83, [some (.ref x0), some (.ref x1), some (.int x2), some (.int x3), none], [.int (-x3), .ref (fr x0 7)], σ)) r71_82 rfl rfl <| Er.sT (c2 := (84, [some (.ref x0), some (.ref x1), some (.int x2), some (.int x3), none], [.int (0 : Int32), .int (-x3), .ref (fr x0 7)], σ)) r71_83 rfl rfl <| Er.st (P := ((([.ref (fr x0 7)] : List Value).map fun v => v.category).sum ≤ 8)) (c2 := (87, [some (.ref x0), some (.ref x1), some (.int x2), some (.int x3), none], [.int (if (-x3) < (0 : Int32) then (0 : Int32) else (-x3)), .ref (fr x0 7)], σ)) r71_84 rfl rfl (Nat.le_of_ble_eq_true rfl) <| (Er.call (vs := [.ref (fr x0 7), .int (if (-x3) < (0 : Int32) then (0 : Int32) else (-x3))]) (rest := []) r71_87 rfl rfl (Nat.le_of_ble_eq_true rfl) (Nat.le_of_ble_eq_true rfl) (fun _ => ⟨_, _, rfl, h2⟩) hy k)
theorem b71_90 {d : Nat} {q : Rs} {x0 : Nat} {x1 : Nat} {x2 : Int32} {x3 : Int32} {σ : St} {σ2 : St}  (h1 : x0 < 24 ∧ kls x0 = 4) (h2 : (fr x0 8) < 24 ∧ kls (fr x0 8) = 1)
    (hy : Er d 6 (0, ent 6 [.ref (fr x0 8), .ref (fr x0 6), .ref (fr x0 7)], [], σ) (.inl none, σ2, 0))
    (k : Er (d + 1) 71 (105, [some (.ref x0), some (.ref x1), some (.int x2), some (.int x3), none], [], σ2) q) :
    Er (d + 1) 71 (90, [some (.ref x0), some (.ref x1), some (.int x2), some (.int x3), none], [], σ) q := Er.sT (c2 := (91, [some (.ref x0), some (.ref x1), some (.int x2), some (.int x3), none], [.ref x0], σ)) r71_90 rfl rfl <| Er.st (P := (x0 < 24 ∧ kls x0 = 4)) (c2 := (94, [some (.ref x0), some (.ref x1), some (.int x2), some (.int x3), none], [.ref (fr x0 8)], σ)) r71_91 rfl rfl h1 <| Er.sT (c2 := (95, [some (.ref x0), some (.ref x1), some (.int x2), some (.int x3), none], [.ref x0, .ref (fr x0 8)], σ)) r71_94 rfl rfl <| Er.st (P := (x0 < 24 ∧ kls x0 = 4)) (c2 := (98, [some (.ref x0), some (.ref x1), some (.int x2), some (.int x3), none], [.ref (fr x0 6), .ref (fr x0 8)], σ)) r71_95 rfl rfl h1 <| Er.sT (c2 := (99, [some (.ref x0), some (.ref x1), some (.int x2), some (.int x3), none], [.ref x0, .ref (fr x0 6), .ref (fr x0 8)], σ)) r71_98 rfl rfl <| Er.st (P := (x0 < 24 ∧ kls x0 = 4)) (c2 := (102, [some (.ref x0), some (.ref x1), some (.int x2), some (.int x3), none], [.ref (fr x0 7), .ref (fr x0 6), .ref (fr x0 8)], σ)) r71_99 rfl rfl h1 <| (Er.call (vs := [.ref (fr x0 8), .ref (fr x0 6), .ref (fr x0 7)]) (rest := []) r71_102 rfl rfl (Nat.le_of_ble_eq_true rfl) (Nat.le_of_ble_eq_true rfl) (fun _ => ⟨_, _, rfl, h2⟩) hy k)
theorem b71_105 {d : Nat} {q : Rs} {x0 : Nat} {x1 : Nat} {x2 : Int32} {x3 : Int32} {σ : St} {σ2 : St} {r : Int32} (h1 : x0 < 24 ∧ kls x0 = 4) (h2 : (fr x0 8) < 24 ∧ kls (fr x0 8) = 1) (h3 : (fr (fr x0 8) 1) < 24 ∧ kls (fr (fr x0 8) 1) = 2)
    (hy : Er d 17 (0, ent 17 [.ref (fr (fr x0 8) 1)], [], σ) (.inl (some (.int r)), σ2, 0))
    (k : Er (d + 1) 71 (115, [some (.ref x0), some (.ref x1), some (.int x2), some (.int x3), none], [.int r], σ2) q) :
    Er (d + 1) 71 (105, [some (.ref x0), some (.ref x1), some (.int x2), some (.int x3), none], [], σ) q := Er.sT (c2 := (106, [some (.ref x0), some (.ref x1), some (.int x2), some (.int x3), none], [.ref x0], σ)) r71_105 rfl rfl <| Er.st (P := (x0 < 24 ∧ kls x0 = 4)) (c2 := (109, [some (.ref x0), some (.ref x1), some (.int x2), some (.int x3), none], [.ref (fr x0 8)], σ)) r71_106 rfl rfl h1 <| Er.st (P := ((fr x0 8) < 24 ∧ kls (fr x0 8) = 1)) (c2 := (112, [some (.ref x0), some (.ref x1), some (.int x2), some (.int x3), none], [.ref (fr (fr x0 8) 1)], σ)) r71_109 rfl rfl h2 <| (Er.call (vs := [.ref (fr (fr x0 8) 1)]) (rest := []) r71_112 rfl rfl (Nat.le_of_ble_eq_true rfl) (Nat.le_of_ble_eq_true rfl) (fun _ => ⟨_, _, rfl, h3⟩) hy k)
theorem b71_115 {d : Nat} {q : Rs} {x0 : Nat} {x1 : Nat} {x2 : Int32} {x3 : Int32} {s0 : Int32} {σ : St} 
    (kt : ¬ s0 = (0 : Int32) → Er (d + 1) 71 (122, [some (.ref x0), some (.ref x1), some (.int x2), some (.int x3), none], [], σ) q)
    (kf : s0 = (0 : Int32) → Er (d + 1) 71 (118, [some (.ref x0), some (.ref x1), some (.int x2), some (.int x3), none], [], σ) q) :
    Er (d + 1) 71 (115, [some (.ref x0), some (.ref x1), some (.int x2), some (.int x3), none], [.int s0], σ) q := Er.sT (c2 := (brn .ne s0 (0 : Int32) 122 118, [some (.ref x0), some (.ref x1), some (.int x2), some (.int x3), none], [], σ)) r71_115 rfl rfl <| (br_ne kt kf)
theorem b71_118 {d : Nat} {q : Rs} {x0 : Nat} {x1 : Nat} {x2 : Int32} {x3 : Int32} {σ : St} 
    (k : Er (d + 1) 71 (123, [some (.ref x0), some (.ref x1), some (.int x2), some (.int x3), none], [.int (1 : Int32)], σ) q) :
    Er (d + 1) 71 (118, [some (.ref x0), some (.ref x1), some (.int x2), some (.int x3), none], [], σ) q := Er.sT (c2 := (119, [some (.ref x0), some (.ref x1), some (.int x2), some (.int x3), none], [.int (1 : Int32)], σ)) r71_118 rfl rfl <| Er.sT (c2 := (123, [some (.ref x0), some (.ref x1), some (.int x2), some (.int x3), none], [.int (1 : Int32)], σ)) r71_119 rfl rfl <| k
theorem b71_122 {d : Nat} {q : Rs} {x0 : Nat} {x1 : Nat} {x2 : Int32} {x3 : Int32} {σ : St} 
    (k : Er (d + 1) 71 (123, [some (.ref x0), some (.ref x1), some (.int x2), some (.int x3), none], [.int (0 : Int32)], σ) q) :
    Er (d + 1) 71 (122, [some (.ref x0), some (.ref x1), some (.int x2), some (.int x3), none], [], σ) q := Er.sT (c2 := (123, [some (.ref x0), some (.ref x1), some (.int x2), some (.int x3), none], [.int (0 : Int32)], σ)) r71_122 rfl rfl <| k
theorem b71_123 {d : Nat} {q : Rs} {x0 : Nat} {x1 : Nat} {x2 : Int32} {x3 : Int32} {s0 : Int32} {σ : St} (h1 : x0 < 24 ∧ kls x0 = 4) (h2 : (fr x0 3) < 24 ∧ kls (fr x0 3) = 3)
    (kt : (0 : Int32) ≤ (gfi σ (fr x0 3) 2) → Er (d + 1) 71 (140, [some (.ref x0), some (.ref x1), some (.int x2), some (.int x3), some (.int s0)], [.ref x1], σ) q)
    (kf : ¬ (0 : Int32) ≤ (gfi σ (fr x0 3) 2) → Er (d + 1) 71 (136, [some (.ref x0), some (.ref x1), some (.int x2), some (.int x3), some (.int s0)], [.ref x1], σ) q) :
    Er (d + 1) 71 (123, [some (.ref x0), some (.ref x1), some (.int x2), some (.int x3), none], [.int s0], σ) q := Er.sT (c2 := (125, [some (.ref x0), some (.ref x1), some (.int x2), some (.int x3), some (.int s0)], [], σ)) r71_123 rfl rfl <| Er.sT (c2 := (126, [some (.ref x0), some (.ref x1), some (.int x2), some (.int x3), some (.int s0)], [.ref x1], σ)) r71_125 rfl rfl <| Er.sT (c2 := (127, [some (.ref x0), some (.ref x1), some (.int x2), some (.int x3), some (.int s0)], [.ref x0, .ref x1], σ)) r71_126 rfl rfl <| Er.st (P := (x0 < 24 ∧ kls x0 = 4)) (c2 := (130, [some (.ref x0), some (.ref x1), some (.int x2), some (.int x3), some (.int s0)], [.ref (fr x0 3), .ref x1], σ)) r71_127 rfl rfl h1 <| Er.st (P := ((fr x0 3) < 24 ∧ kls (fr x0 3) = 3)) (c2 := (133, [some (.ref x0), some (.ref x1), some (.int x2), some (.int x3), some (.int s0)], [.int (gfi σ (fr x0 3) 2), .ref x1], σ)) r71_130 rfl rfl h2 <| Er.sT (c2 := (brn .ge (gfi σ (fr x0 3) 2) (0 : Int32) 140 136, [some (.ref x0), some (.ref x1), some (.int x2), some (.int x3), some (.int s0)], [.ref x1], σ)) r71_133 rfl rfl <| (br_ge kt kf)
theorem b71_136 {d : Nat} {q : Rs} {x0 : Nat} {x1 : Nat} {x2 : Int32} {x3 : Int32} {x4 : Int32} {s0 : Nat} {σ : St} 
    (k : Er (d + 1) 71 (141, [some (.ref x0), some (.ref x1), some (.int x2), some (.int x3), some (.int x4)], [.int (1 : Int32), .ref s0], σ) q) :
    Er (d + 1) 71 (136, [some (.ref x0), some (.ref x1), some (.int x2), some (.int x3), some (.int x4)], [.ref s0], σ) q := Er.sT (c2 := (137, [some (.ref x0), some (.ref x1), some (.int x2), some (.int x3), some (.int x4)], [.int (1 : Int32), .ref s0], σ)) r71_136 rfl rfl <| Er.sT (c2 := (141, [some (.ref x0), some (.ref x1), some (.int x2), some (.int x3), some (.int x4)], [.int (1 : Int32), .ref s0], σ)) r71_137 rfl rfl <| k
theorem b71_140 {d : Nat} {q : Rs} {x0 : Nat} {x1 : Nat} {x2 : Int32} {x3 : Int32} {x4 : Int32} {s0 : Nat} {σ : St} 
    (k : Er (d + 1) 71 (141, [some (.ref x0), some (.ref x1), some (.int x2), some (.int x3), some (.int x4)], [.int (0 : Int32), .ref s0], σ) q) :
    Er (d + 1) 71 (140, [some (.ref x0), some (.ref x1), some (.int x2), some (.int x3), some (.int x4)], [.ref s0], σ) q := Er.sT (c2 := (141, [some (.ref x0), some (.ref x1), some (.int x2), some (.int x3), some (.int x4)], [.int (0 : Int32), .ref s0], σ)) r71_140 rfl rfl <| k
theorem b71_141 {d : Nat} {q : Rs} {x0 : Nat} {x1 : Nat} {x2 : Int32} {x3 : Int32} {x4 : Int32} {s0 : Nat} {s1 : Int32} {σ : St} {σ2 : St} {r : Int64} (h1 : x0 < 24 ∧ kls x0 = 4) (h2 : (fr x0 8) < 24 ∧ kls (fr x0 8) = 1) (h3 : (fr (fr x0 8) 0) < 24 ∧ kls (fr (fr x0 8) 0) = 2)
    (hy : Er d 24 (0, ent 24 [.ref (fr (fr x0 8) 0)], [], σ) (.inl (some (.long r)), σ2, 0))
    (k : Er (d + 1) 71 (151, [some (.ref x0), some (.ref x1), some (.int x2), some (.int x3), some (.int x4)], [.long r, .int s1, .ref s0], σ2) q) :
    Er (d + 1) 71 (141, [some (.ref x0), some (.ref x1), some (.int x2), some (.int x3), some (.int x4)], [.int s1, .ref s0], σ) q := Er.sT (c2 := (142, [some (.ref x0), some (.ref x1), some (.int x2), some (.int x3), some (.int x4)], [.ref x0, .int s1, .ref s0], σ)) r71_141 rfl rfl <| Er.st (P := (x0 < 24 ∧ kls x0 = 4)) (c2 := (145, [some (.ref x0), some (.ref x1), some (.int x2), some (.int x3), some (.int x4)], [.ref (fr x0 8), .int s1, .ref s0], σ)) r71_142 rfl rfl h1 <| Er.st (P := ((fr x0 8) < 24 ∧ kls (fr x0 8) = 1)) (c2 := (148, [some (.ref x0), some (.ref x1), some (.int x2), some (.int x3), some (.int x4)], [.ref (fr (fr x0 8) 0), .int s1, .ref s0], σ)) r71_145 rfl rfl h2 <| (Er.call (vs := [.ref (fr (fr x0 8) 0)]) (rest := [.int s1, .ref s0]) r71_148 rfl rfl (Nat.le_of_ble_eq_true rfl) (Nat.le_of_ble_eq_true rfl) (fun _ => ⟨_, _, rfl, h3⟩) hy k)
theorem b71_151 {d : Nat} {q : Rs} {x0 : Nat} {x1 : Nat} {x2 : Int32} {x3 : Int32} {x4 : Int32} {s0 : Nat} {s1 : Int32} {s2 : Int64} {σ : St} {σ2 : St} {r : Int64} (h1 : s0 = 46 ∨ s0 = 47)
    (hy : Er d 148 (0, ent 148 [.ref s0, .int s1, .long s2, .int (-x3), .int x4, .int x2], [], σ) (.inl (some (.long r)), σ2, 0))
    (k : Er (d + 1) 71 (159, [some (.ref x0), some (.ref x1), some (.int x2), some (.int x3), some (.int x4)], [.long r], σ2) q) :
    Er (d + 1) 71 (151, [some (.ref x0), some (.ref x1), some (.int x2), some (.int x3), some (.int x4)], [.long s2, .int s1, .ref s0], σ) q := Er.sT (c2 := (152, [some (.ref x0), some (.ref x1), some (.int x2), some (.int x3), some (.int x4)], [.int x3, .long s2, .int s1, .ref s0], σ)) r71_151 rfl rfl <| Er.sT (c2 := (153, [some (.ref x0), some (.ref x1), some (.int x2), some (.int x3), some (.int x4)], [.int (-x3), .long s2, .int s1, .ref s0], σ)) r71_152 rfl rfl <| Er.sT (c2 := (155, [some (.ref x0), some (.ref x1), some (.int x2), some (.int x3), some (.int x4)], [.int x4, .int (-x3), .long s2, .int s1, .ref s0], σ)) r71_153 rfl rfl <| Er.sT (c2 := (156, [some (.ref x0), some (.ref x1), some (.int x2), some (.int x3), some (.int x4)], [.int x2, .int x4, .int (-x3), .long s2, .int s1, .ref s0], σ)) r71_155 rfl rfl <| (Er.call (vs := [.ref s0, .int s1, .long s2, .int (-x3), .int x4, .int x2]) (rest := []) r71_156 rfl rfl (Nat.le_of_ble_eq_true rfl) (Nat.le_of_ble_eq_true rfl) (fun _ => ⟨_, _, rfl, h1⟩) hy k)
theorem b71_159 {d : Nat} {x0 : Nat} {x1 : Nat} {x2 : Int32} {x3 : Int32} {x4 : Int32} {s0 : Int64} {σ : St}  :
    Er (d + 1) 71 (159, [some (.ref x0), some (.ref x1), some (.int x2), some (.int x3), some (.int x4)], [.long s0], σ) (.inl (some (.long s0)), σ, 0) := (Er.ret r71_159 rfl ⟨_, rfl, rfl, rfl⟩)
/-! NumberModels.single(II)I -/
theorem tab_72 : tab 72 = tb72_0 := rfl
theorem ch72_0 {j : Nat} {r : Row} (h : tb72_0[j]? = some r) : rowAt 72 r.1 = some r := row_mem 72 (by decide) (by rw [tab_72]; exact List.mem_of_getElem? h)
theorem r72_0 : rowAt 72 0 = some (r0 0 1 (.aload_n 0)) := ch72_0 (j := 0) rfl
theorem r72_1 : rowAt 72 1 = some (ra 1 2 (.iload_n 1) 1 0 0) := ch72_0 (j := 1) rfl
theorem r72_2 : rowAt 72 2 = some (ra 2 5 (.invokevirtual 123) 49 2 556) := ch72_0 (j := 2) rfl
theorem r72_5 : rowAt 72 5 = some (r0 5 6 (.aload_n 0)) := ch72_0 (j := 3) rfl
theorem r72_6 : rowAt 72 6 = some (ra 6 7 (.iload_n 2) 2 0 0) := ch72_0 (j := 4) rfl
theorem r72_7 : rowAt 72 7 = some (ra 7 10 (.invokevirtual 173) 70 2 743) := ch72_0 (j := 5) rfl
theorem r72_10 : rowAt 72 10 = some (r0 10 11 (.aload_n 0)) := ch72_0 (j := 6) rfl
theorem r72_11 : rowAt 72 11 = some (ra 11 12 (.iload_n 1) 1 0 0) := ch72_0 (j := 7) rfl
theorem r72_12 : rowAt 72 12 = some (r0 12 13 (.aload_n 0)) := ch72_0 (j := 8) rfl
theorem r72_13 : rowAt 72 13 = some (ra 13 16 (.getfield 20) 3 4 193) := ch72_0 (j := 9) rfl
theorem r72_16 : rowAt 72 16 = some (ra 16 19 (.invokevirtual 126) 50 3 576) := ch72_0 (j := 10) rfl
theorem r72_19 : rowAt 72 19 = some (r0 19 20 (.aload_n 0)) := ch72_0 (j := 11) rfl
theorem r72_20 : rowAt 72 20 = some (ra 20 23 (.getstatic 180) 47 0 777) := ch72_0 (j := 12) rfl
theorem r72_23 : rowAt 72 23 = some (ra 23 24 (.iload_n 2) 2 0 0) := ch72_0 (j := 13) rfl
theorem r72_24 : rowAt 72 24 = some (ra 24 27 (.invokevirtual 176) 71 3 748) := ch72_0 (j := 14) rfl
theorem r72_27 : rowAt 72 27 = some (r0 27 28 (.l2i)) := ch72_0 (j := 15) rfl
theorem r72_28 : rowAt 72 28 = some (r0 28 29 (.ireturn)) := ch72_0 (j := 16) rfl
theorem b72_0 {d : Nat} {q : Rs} {x0 : Nat} {x1 : Int32} {x2 : Int32} {σ : St} {σ2 : St}  (h1 : x0 < 24 ∧ kls x0 = 4)
    (hy : Er d 49 (0, ent 49 [.ref x0, .int x1], [], σ) (.inl none, σ2, 0))
    (k : Er (d + 1) 72 (5, [some (.ref x0), some (.int x1), some (.int x2)], [], σ2) q) :
    Er (d + 1) 72 (0, [some (.ref x0), some (.int x1), some (.int x2)], [], σ) q := Er.sT (c2 := (1, [some (.ref x0), some (.int x1), some (.int x2)], [.ref x0], σ)) r72_0 rfl rfl <| Er.sT (c2 := (2, [some (.ref x0), some (.int x1), some (.int x2)], [.int x1, .ref x0], σ)) r72_1 rfl rfl <| (Er.call (vs := [.ref x0, .int x1]) (rest := []) r72_2 rfl rfl (Nat.le_of_ble_eq_true rfl) (Nat.le_of_ble_eq_true rfl) (fun _ => ⟨_, _, rfl, h1⟩) hy k)
theorem b72_0x {d x c9 : Nat} {x0 : Nat} {x1 : Int32} {x2 : Int32} {σ : St} {σ2 : St} (h1 : x0 < 24 ∧ kls x0 = 4) (hx : x < 4)
    (hy : Er d 49 (0, ent 49 [.ref x0, .int x1], [], σ) (.inr x, σ2, c9)) :
    Er (d + 1) 72 (0, [some (.ref x0), some (.int x1), some (.int x2)], [], σ) (.inr x, σ2, c9) := Er.sT (c2 := (1, [some (.ref x0), some (.int x1), some (.int x2)], [.ref x0], σ)) r72_0 rfl rfl <| Er.sT (c2 := (2, [some (.ref x0), some (.int x1), some (.int x2)], [.int x1, .ref x0], σ)) r72_1 rfl rfl <| (Er.callx (vs := [.ref x0, .int x1]) (rest := []) r72_2 rfl rfl (Nat.le_of_ble_eq_true rfl) (Nat.le_of_ble_eq_true rfl) (fun _ => ⟨_, _, rfl, h1⟩) hx rfl rfl hy)
theorem b72_5 {d : Nat} {q : Rs} {x0 : Nat} {x1 : Int32} {x2 : Int32} {σ : St} {σ2 : St}  (h1 : x0 < 24 ∧ kls x0 = 4)
    (hy : Er d 70 (0, ent 70 [.ref x0, .int x2], [], σ) (.inl none, σ2, 0))
    (k : Er (d + 1) 72 (10, [some (.ref x0), some (.int x1), some (.int x2)], [], σ2) q) :
    Er (d + 1) 72 (5, [some (.ref x0), some (.int x1), some (.int x2)], [], σ) q := Er.sT (c2 := (6, [some (.ref x0), some (.int x1), some (.int x2)], [.ref x0], σ)) r72_5 rfl rfl <| Er.sT (c2 := (7, [some (.ref x0), some (.int x1), some (.int x2)], [.int x2, .ref x0], σ)) r72_6 rfl rfl <| (Er.call (vs := [.ref x0, .int x2]) (rest := []) r72_7 rfl rfl (Nat.le_of_ble_eq_true rfl) (Nat.le_of_ble_eq_true rfl) (fun _ => ⟨_, _, rfl, h1⟩) hy k)
theorem b72_5x {d x c9 : Nat} {x0 : Nat} {x1 : Int32} {x2 : Int32} {σ : St} {σ2 : St} (h1 : x0 < 24 ∧ kls x0 = 4) (hx : x < 4)
    (hy : Er d 70 (0, ent 70 [.ref x0, .int x2], [], σ) (.inr x, σ2, c9)) :
    Er (d + 1) 72 (5, [some (.ref x0), some (.int x1), some (.int x2)], [], σ) (.inr x, σ2, c9) := Er.sT (c2 := (6, [some (.ref x0), some (.int x1), some (.int x2)], [.ref x0], σ)) r72_5 rfl rfl <| Er.sT (c2 := (7, [some (.ref x0), some (.int x1), some (.int x2)], [.int x2, .ref x0], σ)) r72_6 rfl rfl <| (Er.callx (vs := [.ref x0, .int x2]) (rest := []) r72_7 rfl rfl (Nat.le_of_ble_eq_true rfl) (Nat.le_of_ble_eq_true rfl) (fun _ => ⟨_, _, rfl, h1⟩) hx rfl rfl hy)
theorem b72_10 {d : Nat} {q : Rs} {x0 : Nat} {x1 : Int32} {x2 : Int32} {σ : St} {σ2 : St}  (h1 : x0 < 24 ∧ kls x0 = 4)
    (hy : Er d 50 (0, ent 50 [.ref x0, .int x1, .ref (fr x0 3)], [], σ) (.inl none, σ2, 0))
    (k : Er (d + 1) 72 (19, [some (.ref x0), some (.int x1), some (.int x2)], [], σ2) q) :
    Er (d + 1) 72 (10, [some (.ref x0), some (.int x1), some (.int x2)], [], σ) q := Er.sT (c2 := (11, [some (.ref x0), some (.int x1), some (.int x2)], [.ref x0], σ)) r72_10 rfl rfl <| Er.sT (c2 := (12, [some (.ref x0), some (.int x1), some (.int x2)], [.int x1, .ref x0], σ)) r72_11 rfl rfl <| Er.sT (c2 := (13, [some (.ref x0), some (.int x1), some (.int x2)], [.ref x0, .int x1, .ref x0], σ)) r72_12 rfl rfl <| Er.st (P := (x0 < 24 ∧ kls x0 = 4)) (c2 := (16, [some (.ref x0), some (.int x1), some (.int x2)], [.ref (fr x0 3), .int x1, .ref x0], σ)) r72_13 rfl rfl h1 <| (Er.call (vs := [.ref x0, .int x1, .ref (fr x0 3)]) (rest := []) r72_16 rfl rfl (Nat.le_of_ble_eq_true rfl) (Nat.le_of_ble_eq_true rfl) (fun _ => ⟨_, _, rfl, h1⟩) hy k)
theorem b72_19 {d : Nat} {q : Rs} {x0 : Nat} {x1 : Int32} {x2 : Int32} {σ : St} {σ2 : St} {r : Int64} (h1 : x0 < 24 ∧ kls x0 = 4)
    (hy : Er d 71 (0, ent 71 [.ref x0, .ref 47, .int x2], [], σ) (.inl (some (.long r)), σ2, 0))
    (k : Er (d + 1) 72 (27, [some (.ref x0), some (.int x1), some (.int x2)], [.long r], σ2) q) :
    Er (d + 1) 72 (19, [some (.ref x0), some (.int x1), some (.int x2)], [], σ) q := Er.sT (c2 := (20, [some (.ref x0), some (.int x1), some (.int x2)], [.ref x0], σ)) r72_19 rfl rfl <| Er.sT (c2 := (23, [some (.ref x0), some (.int x1), some (.int x2)], [.ref 47, .ref x0], σ)) r72_20 rfl rfl <| Er.sT (c2 := (24, [some (.ref x0), some (.int x1), some (.int x2)], [.int x2, .ref 47, .ref x0], σ)) r72_23 rfl rfl <| (Er.call (vs := [.ref x0, .ref 47, .int x2]) (rest := []) r72_24 rfl rfl (Nat.le_of_ble_eq_true rfl) (Nat.le_of_ble_eq_true rfl) (fun _ => ⟨_, _, rfl, h1⟩) hy k)
theorem b72_27 {d : Nat} {x0 : Nat} {x1 : Int32} {x2 : Int32} {s0 : Int64} {σ : St}  :
    Er (d + 1) 72 (27, [some (.ref x0), some (.int x1), some (.int x2)], [.long s0], σ) (.inl (some (.int (s0.toInt32))), σ, 0) := Er.sT (c2 := (28, [some (.ref x0), some (.int x1), some (.int x2)], [.int (s0.toInt32)], σ)) r72_27 rfl rfl <| (Er.ret r72_28 rfl ⟨_, _, rfl, rfl, rfl, rfl⟩)
/-! NumberModels.machine(IJJ)J -/
theorem tab_73 : tab 73 = tb73_0 := rfl
theorem ch73_0 {j : Nat} {r : Row} (h : tb73_0[j]? = some r) : rowAt 73 r.1 = some r := row_mem 73 (by decide) (by rw [tab_73]; exact List.mem_of_getElem? h)
theorem r73_0 : rowAt 73 0 = some (ra 0 1 (.iload_n 1) 1 0 0) := ch73_0 (j := 0) rfl
theorem r73_1 : rowAt 73 1 = some (r0 1 60 (.tableswitch 129 0 10 #[59, 66, 72, 78, 84, 91, 98, 105, 110, 115, 122])) := ch73_0 (j := 1) rfl
theorem r73_60 : rowAt 73 60 = some (ra 60 61 (.lload_n 2) 2 0 0) := ch73_0 (j := 2) rfl
theorem r73_61 : rowAt 73 61 = some (ra 61 63 (.lload 4) 4 0 0) := ch73_0 (j := 3) rfl
theorem r73_63 : rowAt 73 63 = some (ra 63 66 (.invokestatic 183) 152 2 786) := ch73_0 (j := 4) rfl
theorem r73_66 : rowAt 73 66 = some (r0 66 67 (.lreturn)) := ch73_0 (j := 5) rfl
theorem r73_67 : rowAt 73 67 = some (ra 67 68 (.lload_n 2) 2 0 0) := ch73_0 (j := 6) rfl
theorem r73_68 : rowAt 73 68 = some (68, 69, .iconst 2, 0, 0, 0, 2, 0) := ch73_0 (j := 7) rfl
theorem r73_69 : rowAt 73 69 = some (ra 69 72 (.invokestatic 189) 155 2 804) := ch73_0 (j := 8) rfl
theorem r73_72 : rowAt 73 72 = some (r0 72 73 (.lreturn)) := ch73_0 (j := 9) rfl
theorem r73_73 : rowAt 73 73 = some (ra 73 74 (.lload_n 2) 2 0 0) := ch73_0 (j := 10) rfl
theorem r73_74 : rowAt 73 74 = some (74, 75, .iconst 1, 0, 0, 0, 1, 0) := ch73_0 (j := 11) rfl
theorem r73_75 : rowAt 73 75 = some (ra 75 78 (.invokestatic 189) 155 2 804) := ch73_0 (j := 12) rfl
theorem r73_78 : rowAt 73 78 = some (r0 78 79 (.lreturn)) := ch73_0 (j := 13) rfl
theorem r73_79 : rowAt 73 79 = some (ra 79 80 (.lload_n 2) 2 0 0) := ch73_0 (j := 14) rfl
theorem r73_80 : rowAt 73 80 = some (r0 80 81 (.iconst 0)) := ch73_0 (j := 15) rfl
theorem r73_81 : rowAt 73 81 = some (ra 81 84 (.invokestatic 189) 155 2 804) := ch73_0 (j := 16) rfl
theorem r73_84 : rowAt 73 84 = some (r0 84 85 (.lreturn)) := ch73_0 (j := 17) rfl
theorem r73_85 : rowAt 73 85 = some (ra 85 86 (.lload_n 2) 2 0 0) := ch73_0 (j := 18) rfl
theorem r73_86 : rowAt 73 86 = some (ra 86 88 (.lload 4) 4 0 0) := ch73_0 (j := 19) rfl
theorem r73_88 : rowAt 73 88 = some (ra 88 91 (.invokestatic 193) 156 2 808) := ch73_0 (j := 20) rfl
theorem r73_91 : rowAt 73 91 = some (r0 91 92 (.lreturn)) := ch73_0 (j := 21) rfl
theorem r73_92 : rowAt 73 92 = some (ra 92 93 (.lload_n 2) 2 0 0) := ch73_0 (j := 22) rfl
theorem r73_93 : rowAt 73 93 = some (ra 93 95 (.lload 4) 4 0 0) := ch73_0 (j := 23) rfl
theorem r73_95 : rowAt 73 95 = some (ra 95 98 (.invokestatic 196) 158 2 814) := ch73_0 (j := 24) rfl
theorem r73_98 : rowAt 73 98 = some (r0 98 99 (.lreturn)) := ch73_0 (j := 25) rfl
theorem r73_99 : rowAt 73 99 = some (ra 99 100 (.lload_n 2) 2 0 0) := ch73_0 (j := 26) rfl
theorem r73_100 : rowAt 73 100 = some (ra 100 102 (.lload 4) 4 0 0) := ch73_0 (j := 27) rfl
theorem r73_102 : rowAt 73 102 = some (ra 102 105 (.invokestatic 199) 159 2 817) := ch73_0 (j := 28) rfl
theorem r73_105 : rowAt 73 105 = some (r0 105 106 (.lreturn)) := ch73_0 (j := 29) rfl
theorem r73_106 : rowAt 73 106 = some (ra 106 107 (.lload_n 2) 2 0 0) := ch73_0 (j := 30) rfl
theorem r73_107 : rowAt 73 107 = some (ra 107 110 (.invokestatic 202) 160 1 821) := ch73_0 (j := 31) rfl
theorem r73_110 : rowAt 73 110 = some (r0 110 111 (.lreturn)) := ch73_0 (j := 32) rfl
theorem r73_111 : rowAt 73 111 = some (ra 111 112 (.lload_n 2) 2 0 0) := ch73_0 (j := 33) rfl
theorem r73_112 : rowAt 73 112 = some (ra 112 115 (.invokestatic 205) 161 1 824) := ch73_0 (j := 34) rfl
theorem r73_115 : rowAt 73 115 = some (r0 115 116 (.lreturn)) := ch73_0 (j := 35) rfl
theorem r73_116 : rowAt 73 116 = some (ra 116 117 (.lload_n 2) 2 0 0) := ch73_0 (j := 36) rfl
theorem r73_117 : rowAt 73 117 = some (ra 117 119 (.lload 4) 4 0 0) := ch73_0 (j := 37) rfl
theorem r73_119 : rowAt 73 119 = some (ra 119 122 (.invokestatic 208) 162 2 827) := ch73_0 (j := 38) rfl
theorem r73_122 : rowAt 73 122 = some (r0 122 123 (.lreturn)) := ch73_0 (j := 39) rfl
theorem r73_123 : rowAt 73 123 = some (ra 123 124 (.lload_n 2) 2 0 0) := ch73_0 (j := 40) rfl
theorem r73_124 : rowAt 73 124 = some (ra 124 126 (.lload 4) 4 0 0) := ch73_0 (j := 41) rfl
theorem r73_126 : rowAt 73 126 = some (ra 126 129 (.invokestatic 210) 163 2 838) := ch73_0 (j := 42) rfl
theorem r73_129 : rowAt 73 129 = some (r0 129 130 (.lreturn)) := ch73_0 (j := 43) rfl
theorem r73_130 : rowAt 73 130 = some (ra 130 133 (.new 147) 1 11 594) := ch73_0 (j := 44) rfl
theorem b73_0 {d : Nat} {q : Rs} {x0 : Nat} {x1 : Int32} {x2 : Int64} {x4 : Int64} {σ : St} 
    (k : Er (d + 1) 73 (tsw 1 129 0 10 #[59, 66, 72, 78, 84, 91, 98, 105, 110, 115, 122] x1.toInt, [some (.ref x0), some (.int x1), some (.long x2), none, some (.long x4), none], [], σ) q) :
    Er (d + 1) 73 (0, [some (.ref x0), some (.int x1), some (.long x2), none, some (.long x4), none], [], σ) q := Er.sT (c2 := (1, [some (.ref x0), some (.int x1), some (.long x2), none, some (.long x4), none], [.int x1], σ)) r73_0 rfl rfl <| Er.sT (c2 := (tsw 1 129 0 10 #[59, 66, 72, 78, 84, 91, 98, 105, 110, 115, 122] x1.toInt, [some (.ref x0), some (.int x1), some (.long x2), none, some (.long x4), none], [], σ)) r73_1 rfl rfl <| k
theorem b73_60 {d : Nat} {q : Rs} {x0 : Nat} {x1 : Int32} {x2 : Int64} {x4 : Int64} {σ : St} {σ2 : St} {r : Int64} 
    (hy : Er d 152 (0, ent 152 [.long x2, .long x4], [], σ) (.inl (some (.long r)), σ2, 0))
    (k : Er (d + 1) 73 (66, [some (.ref x0), some (.int x1), some (.long x2), none, some (.long x4), none], [.long r], σ2) q) :
    Er (d + 1) 73 (60, [some (.ref x0), some (.int x1), some (.long x2), none, some (.long x4), none], [], σ) q := Er.sT (c2 := (61, [some (.ref x0), some (.int x1), some (.long x2), none, some (.long x4), none], [.long x2], σ)) r73_60 rfl rfl <| Er.sT (c2 := (63, [some (.ref x0), some (.int x1), some (.long x2), none, some (.long x4), none], [.long x4, .long x2], σ)) r73_61 rfl rfl <| (Er.call (vs := [.long x2, .long x4]) (rest := []) r73_63 rfl rfl (Nat.le_of_ble_eq_true rfl) (Nat.le_of_ble_eq_true rfl) (fun h => absurd h (by decide +kernel)) hy k)
theorem b73_66 {d : Nat} {x0 : Nat} {x1 : Int32} {x2 : Int64} {x4 : Int64} {s0 : Int64} {σ : St}  :
    Er (d + 1) 73 (66, [some (.ref x0), some (.int x1), some (.long x2), none, some (.long x4), none], [.long s0], σ) (.inl (some (.long s0)), σ, 0) := (Er.ret r73_66 rfl ⟨_, rfl, rfl, rfl⟩)
theorem b73_67 {d : Nat} {q : Rs} {x0 : Nat} {x1 : Int32} {x2 : Int64} {x4 : Int64} {σ : St} {σ2 : St} {r : Int64} 
    (hy : Er d 155 (0, ent 155 [.long x2, .int (2 : Int32)], [], σ) (.inl (some (.long r)), σ2, 0))
    (k : Er (d + 1) 73 (72, [some (.ref x0), some (.int x1), some (.long x2), none, some (.long x4), none], [.long r], σ2) q) :
    Er (d + 1) 73 (67, [some (.ref x0), some (.int x1), some (.long x2), none, some (.long x4), none], [], σ) q := Er.sT (c2 := (68, [some (.ref x0), some (.int x1), some (.long x2), none, some (.long x4), none], [.long x2], σ)) r73_67 rfl rfl <| Er.sT (c2 := (69, [some (.ref x0), some (.int x1), some (.long x2), none, some (.long x4), none], [.int (2 : Int32), .long x2], σ)) r73_68 rfl rfl <| (Er.call (vs := [.long x2, .int (2 : Int32)]) (rest := []) r73_69 rfl rfl (Nat.le_of_ble_eq_true rfl) (Nat.le_of_ble_eq_true rfl) (fun h => absurd h (by decide +kernel)) hy k)
theorem b73_72 {d : Nat} {x0 : Nat} {x1 : Int32} {x2 : Int64} {x4 : Int64} {s0 : Int64} {σ : St}  :
    Er (d + 1) 73 (72, [some (.ref x0), some (.int x1), some (.long x2), none, some (.long x4), none], [.long s0], σ) (.inl (some (.long s0)), σ, 0) := (Er.ret r73_72 rfl ⟨_, rfl, rfl, rfl⟩)
theorem b73_73 {d : Nat} {q : Rs} {x0 : Nat} {x1 : Int32} {x2 : Int64} {x4 : Int64} {σ : St} {σ2 : St} {r : Int64} 
    (hy : Er d 155 (0, ent 155 [.long x2, .int (1 : Int32)], [], σ) (.inl (some (.long r)), σ2, 0))
    (k : Er (d + 1) 73 (78, [some (.ref x0), some (.int x1), some (.long x2), none, some (.long x4), none], [.long r], σ2) q) :
    Er (d + 1) 73 (73, [some (.ref x0), some (.int x1), some (.long x2), none, some (.long x4), none], [], σ) q := Er.sT (c2 := (74, [some (.ref x0), some (.int x1), some (.long x2), none, some (.long x4), none], [.long x2], σ)) r73_73 rfl rfl <| Er.sT (c2 := (75, [some (.ref x0), some (.int x1), some (.long x2), none, some (.long x4), none], [.int (1 : Int32), .long x2], σ)) r73_74 rfl rfl <| (Er.call (vs := [.long x2, .int (1 : Int32)]) (rest := []) r73_75 rfl rfl (Nat.le_of_ble_eq_true rfl) (Nat.le_of_ble_eq_true rfl) (fun h => absurd h (by decide +kernel)) hy k)
theorem b73_78 {d : Nat} {x0 : Nat} {x1 : Int32} {x2 : Int64} {x4 : Int64} {s0 : Int64} {σ : St}  :
    Er (d + 1) 73 (78, [some (.ref x0), some (.int x1), some (.long x2), none, some (.long x4), none], [.long s0], σ) (.inl (some (.long s0)), σ, 0) := (Er.ret r73_78 rfl ⟨_, rfl, rfl, rfl⟩)
theorem b73_79 {d : Nat} {q : Rs} {x0 : Nat} {x1 : Int32} {x2 : Int64} {x4 : Int64} {σ : St} {σ2 : St} {r : Int64} 
    (hy : Er d 155 (0, ent 155 [.long x2, .int (0 : Int32)], [], σ) (.inl (some (.long r)), σ2, 0))
    (k : Er (d + 1) 73 (84, [some (.ref x0), some (.int x1), some (.long x2), none, some (.long x4), none], [.long r], σ2) q) :
    Er (d + 1) 73 (79, [some (.ref x0), some (.int x1), some (.long x2), none, some (.long x4), none], [], σ) q := Er.sT (c2 := (80, [some (.ref x0), some (.int x1), some (.long x2), none, some (.long x4), none], [.long x2], σ)) r73_79 rfl rfl <| Er.sT (c2 := (81, [some (.ref x0), some (.int x1), some (.long x2), none, some (.long x4), none], [.int (0 : Int32), .long x2], σ)) r73_80 rfl rfl <| (Er.call (vs := [.long x2, .int (0 : Int32)]) (rest := []) r73_81 rfl rfl (Nat.le_of_ble_eq_true rfl) (Nat.le_of_ble_eq_true rfl) (fun h => absurd h (by decide +kernel)) hy k)
theorem b73_84 {d : Nat} {x0 : Nat} {x1 : Int32} {x2 : Int64} {x4 : Int64} {s0 : Int64} {σ : St}  :
    Er (d + 1) 73 (84, [some (.ref x0), some (.int x1), some (.long x2), none, some (.long x4), none], [.long s0], σ) (.inl (some (.long s0)), σ, 0) := (Er.ret r73_84 rfl ⟨_, rfl, rfl, rfl⟩)
theorem b73_85 {d : Nat} {q : Rs} {x0 : Nat} {x1 : Int32} {x2 : Int64} {x4 : Int64} {σ : St} {σ2 : St} {r : Int64} 
    (hy : Er d 156 (0, ent 156 [.long x2, .long x4], [], σ) (.inl (some (.long r)), σ2, 0))
    (k : Er (d + 1) 73 (91, [some (.ref x0), some (.int x1), some (.long x2), none, some (.long x4), none], [.long r], σ2) q) :
    Er (d + 1) 73 (85, [some (.ref x0), some (.int x1), some (.long x2), none, some (.long x4), none], [], σ) q := Er.sT (c2 := (86, [some (.ref x0), some (.int x1), some (.long x2), none, some (.long x4), none], [.long x2], σ)) r73_85 rfl rfl <| Er.sT (c2 := (88, [some (.ref x0), some (.int x1), some (.long x2), none, some (.long x4), none], [.long x4, .long x2], σ)) r73_86 rfl rfl <| (Er.call (vs := [.long x2, .long x4]) (rest := []) r73_88 rfl rfl (Nat.le_of_ble_eq_true rfl) (Nat.le_of_ble_eq_true rfl) (fun h => absurd h (by decide +kernel)) hy k)
theorem b73_91 {d : Nat} {x0 : Nat} {x1 : Int32} {x2 : Int64} {x4 : Int64} {s0 : Int64} {σ : St}  :
    Er (d + 1) 73 (91, [some (.ref x0), some (.int x1), some (.long x2), none, some (.long x4), none], [.long s0], σ) (.inl (some (.long s0)), σ, 0) := (Er.ret r73_91 rfl ⟨_, rfl, rfl, rfl⟩)
theorem b73_92 {d : Nat} {q : Rs} {x0 : Nat} {x1 : Int32} {x2 : Int64} {x4 : Int64} {σ : St} {σ2 : St} {r : Int64} 
    (hy : Er d 158 (0, ent 158 [.long x2, .long x4], [], σ) (.inl (some (.long r)), σ2, 0))
    (k : Er (d + 1) 73 (98, [some (.ref x0), some (.int x1), some (.long x2), none, some (.long x4), none], [.long r], σ2) q) :
    Er (d + 1) 73 (92, [some (.ref x0), some (.int x1), some (.long x2), none, some (.long x4), none], [], σ) q := Er.sT (c2 := (93, [some (.ref x0), some (.int x1), some (.long x2), none, some (.long x4), none], [.long x2], σ)) r73_92 rfl rfl <| Er.sT (c2 := (95, [some (.ref x0), some (.int x1), some (.long x2), none, some (.long x4), none], [.long x4, .long x2], σ)) r73_93 rfl rfl <| (Er.call (vs := [.long x2, .long x4]) (rest := []) r73_95 rfl rfl (Nat.le_of_ble_eq_true rfl) (Nat.le_of_ble_eq_true rfl) (fun h => absurd h (by decide +kernel)) hy k)
theorem b73_98 {d : Nat} {x0 : Nat} {x1 : Int32} {x2 : Int64} {x4 : Int64} {s0 : Int64} {σ : St}  :
    Er (d + 1) 73 (98, [some (.ref x0), some (.int x1), some (.long x2), none, some (.long x4), none], [.long s0], σ) (.inl (some (.long s0)), σ, 0) := (Er.ret r73_98 rfl ⟨_, rfl, rfl, rfl⟩)
theorem b73_99 {d : Nat} {q : Rs} {x0 : Nat} {x1 : Int32} {x2 : Int64} {x4 : Int64} {σ : St} {σ2 : St} {r : Int64} 
    (hy : Er d 159 (0, ent 159 [.long x2, .long x4], [], σ) (.inl (some (.long r)), σ2, 0))
    (k : Er (d + 1) 73 (105, [some (.ref x0), some (.int x1), some (.long x2), none, some (.long x4), none], [.long r], σ2) q) :
    Er (d + 1) 73 (99, [some (.ref x0), some (.int x1), some (.long x2), none, some (.long x4), none], [], σ) q := Er.sT (c2 := (100, [some (.ref x0), some (.int x1), some (.long x2), none, some (.long x4), none], [.long x2], σ)) r73_99 rfl rfl <| Er.sT (c2 := (102, [some (.ref x0), some (.int x1), some (.long x2), none, some (.long x4), none], [.long x4, .long x2], σ)) r73_100 rfl rfl <| (Er.call (vs := [.long x2, .long x4]) (rest := []) r73_102 rfl rfl (Nat.le_of_ble_eq_true rfl) (Nat.le_of_ble_eq_true rfl) (fun h => absurd h (by decide +kernel)) hy k)
theorem b73_105 {d : Nat} {x0 : Nat} {x1 : Int32} {x2 : Int64} {x4 : Int64} {s0 : Int64} {σ : St}  :
    Er (d + 1) 73 (105, [some (.ref x0), some (.int x1), some (.long x2), none, some (.long x4), none], [.long s0], σ) (.inl (some (.long s0)), σ, 0) := (Er.ret r73_105 rfl ⟨_, rfl, rfl, rfl⟩)
theorem b73_106 {d : Nat} {q : Rs} {x0 : Nat} {x1 : Int32} {x2 : Int64} {x4 : Int64} {σ : St} {σ2 : St} {r : Int64} 
    (hy : Er d 160 (0, ent 160 [.long x2], [], σ) (.inl (some (.long r)), σ2, 0))
    (k : Er (d + 1) 73 (110, [some (.ref x0), some (.int x1), some (.long x2), none, some (.long x4), none], [.long r], σ2) q) :
    Er (d + 1) 73 (106, [some (.ref x0), some (.int x1), some (.long x2), none, some (.long x4), none], [], σ) q := Er.sT (c2 := (107, [some (.ref x0), some (.int x1), some (.long x2), none, some (.long x4), none], [.long x2], σ)) r73_106 rfl rfl <| (Er.call (vs := [.long x2]) (rest := []) r73_107 rfl rfl (Nat.le_of_ble_eq_true rfl) (Nat.le_of_ble_eq_true rfl) (fun h => absurd h (by decide +kernel)) hy k)
theorem b73_110 {d : Nat} {x0 : Nat} {x1 : Int32} {x2 : Int64} {x4 : Int64} {s0 : Int64} {σ : St}  :
    Er (d + 1) 73 (110, [some (.ref x0), some (.int x1), some (.long x2), none, some (.long x4), none], [.long s0], σ) (.inl (some (.long s0)), σ, 0) := (Er.ret r73_110 rfl ⟨_, rfl, rfl, rfl⟩)
theorem b73_111 {d : Nat} {q : Rs} {x0 : Nat} {x1 : Int32} {x2 : Int64} {x4 : Int64} {σ : St} {σ2 : St} {r : Int64} 
    (hy : Er d 161 (0, ent 161 [.long x2], [], σ) (.inl (some (.long r)), σ2, 0))
    (k : Er (d + 1) 73 (115, [some (.ref x0), some (.int x1), some (.long x2), none, some (.long x4), none], [.long r], σ2) q) :
    Er (d + 1) 73 (111, [some (.ref x0), some (.int x1), some (.long x2), none, some (.long x4), none], [], σ) q := Er.sT (c2 := (112, [some (.ref x0), some (.int x1), some (.long x2), none, some (.long x4), none], [.long x2], σ)) r73_111 rfl rfl <| (Er.call (vs := [.long x2]) (rest := []) r73_112 rfl rfl (Nat.le_of_ble_eq_true rfl) (Nat.le_of_ble_eq_true rfl) (fun h => absurd h (by decide +kernel)) hy k)
theorem b73_115 {d : Nat} {x0 : Nat} {x1 : Int32} {x2 : Int64} {x4 : Int64} {s0 : Int64} {σ : St}  :
    Er (d + 1) 73 (115, [some (.ref x0), some (.int x1), some (.long x2), none, some (.long x4), none], [.long s0], σ) (.inl (some (.long s0)), σ, 0) := (Er.ret r73_115 rfl ⟨_, rfl, rfl, rfl⟩)
theorem b73_116 {d : Nat} {q : Rs} {x0 : Nat} {x1 : Int32} {x2 : Int64} {x4 : Int64} {σ : St} {σ2 : St} {r : Int64} 
    (hy : Er d 162 (0, ent 162 [.long x2, .long x4], [], σ) (.inl (some (.long r)), σ2, 0))
    (k : Er (d + 1) 73 (122, [some (.ref x0), some (.int x1), some (.long x2), none, some (.long x4), none], [.long r], σ2) q) :
    Er (d + 1) 73 (116, [some (.ref x0), some (.int x1), some (.long x2), none, some (.long x4), none], [], σ) q := Er.sT (c2 := (117, [some (.ref x0), some (.int x1), some (.long x2), none, some (.long x4), none], [.long x2], σ)) r73_116 rfl rfl <| Er.sT (c2 := (119, [some (.ref x0), some (.int x1), some (.long x2), none, some (.long x4), none], [.long x4, .long x2], σ)) r73_117 rfl rfl <| (Er.call (vs := [.long x2, .long x4]) (rest := []) r73_119 rfl rfl (Nat.le_of_ble_eq_true rfl) (Nat.le_of_ble_eq_true rfl) (fun h => absurd h (by decide +kernel)) hy k)
theorem b73_122 {d : Nat} {x0 : Nat} {x1 : Int32} {x2 : Int64} {x4 : Int64} {s0 : Int64} {σ : St}  :
    Er (d + 1) 73 (122, [some (.ref x0), some (.int x1), some (.long x2), none, some (.long x4), none], [.long s0], σ) (.inl (some (.long s0)), σ, 0) := (Er.ret r73_122 rfl ⟨_, rfl, rfl, rfl⟩)
theorem b73_123 {d : Nat} {q : Rs} {x0 : Nat} {x1 : Int32} {x2 : Int64} {x4 : Int64} {σ : St} {σ2 : St} {r : Int64} 
    (hy : Er d 163 (0, ent 163 [.long x2, .long x4], [], σ) (.inl (some (.long r)), σ2, 0))
    (k : Er (d + 1) 73 (129, [some (.ref x0), some (.int x1), some (.long x2), none, some (.long x4), none], [.long r], σ2) q) :
    Er (d + 1) 73 (123, [some (.ref x0), some (.int x1), some (.long x2), none, some (.long x4), none], [], σ) q := Er.sT (c2 := (124, [some (.ref x0), some (.int x1), some (.long x2), none, some (.long x4), none], [.long x2], σ)) r73_123 rfl rfl <| Er.sT (c2 := (126, [some (.ref x0), some (.int x1), some (.long x2), none, some (.long x4), none], [.long x4, .long x2], σ)) r73_124 rfl rfl <| (Er.call (vs := [.long x2, .long x4]) (rest := []) r73_126 rfl rfl (Nat.le_of_ble_eq_true rfl) (Nat.le_of_ble_eq_true rfl) (fun h => absurd h (by decide +kernel)) hy k)
theorem b73_129 {d : Nat} {x0 : Nat} {x1 : Int32} {x2 : Int64} {x4 : Int64} {s0 : Int64} {σ : St}  :
    Er (d + 1) 73 (129, [some (.ref x0), some (.int x1), some (.long x2), none, some (.long x4), none], [.long s0], σ) (.inl (some (.long s0)), σ, 0) := (Er.ret r73_129 rfl ⟨_, rfl, rfl, rfl⟩)
theorem b73_130 {d : Nat} {x0 : Nat} {x1 : Int32} {x2 : Int64} {x4 : Int64} {σ : St}  :
    Er (d + 6) 73 (130, [some (.ref x0), some (.int x1), some (.long x2), none, some (.long x4), none], [], σ) (.inr 1, σ, 1) := (Er.thr r73_130 rfl rfl)
/-! NumberModels.cast(IJ)J -/
theorem tab_74 : tab 74 = tb74_0 := rfl
theorem ch74_0 {j : Nat} {r : Row} (h : tb74_0[j]? = some r) : rowAt 74 r.1 = some r := row_mem 74 (by decide) (by rw [tab_74]; exact List.mem_of_getElem? h)
theorem r74_0 : rowAt 74 0 = some (ra 0 1 (.iload_n 1) 1 0 0) := ch74_0 (j := 0) rfl
theorem r74_1 : rowAt 74 1 = some (r0 1 44 (.tableswitch 99 0 6 #[43, 48, 54, 61, 68, 75, 88])) := ch74_0 (j := 1) rfl
theorem r74_44 : rowAt 74 44 = some (ra 44 45 (.lload_n 2) 2 0 0) := ch74_0 (j := 2) rfl
theorem r74_45 : rowAt 74 45 = some (ra 45 48 (.invokestatic 215) 164 1 852) := ch74_0 (j := 3) rfl
theorem r74_48 : rowAt 74 48 = some (r0 48 49 (.lreturn)) := ch74_0 (j := 4) rfl
theorem r74_49 : rowAt 74 49 = some (ra 49 50 (.lload_n 2) 2 0 0) := ch74_0 (j := 5) rfl
theorem r74_50 : rowAt 74 50 = some (ra 50 53 (.invokestatic 218) 165 1 858) := ch74_0 (j := 6) rfl
theorem r74_53 : rowAt 74 53 = some (r0 53 54 (.i2l)) := ch74_0 (j := 7) rfl
theorem r74_54 : rowAt 74 54 = some (r0 54 55 (.lreturn)) := ch74_0 (j := 8) rfl
theorem r74_55 : rowAt 74 55 = some (ra 55 56 (.lload_n 2) 2 0 0) := ch74_0 (j := 9) rfl
theorem r74_56 : rowAt 74 56 = some (ra 56 59 (.invokestatic 218) 165 1 858) := ch74_0 (j := 10) rfl
theorem r74_59 : rowAt 74 59 = some (r0 59 60 (.i2s)) := ch74_0 (j := 11) rfl
theorem r74_60 : rowAt 74 60 = some (r0 60 61 (.i2l)) := ch74_0 (j := 12) rfl
theorem r74_61 : rowAt 74 61 = some (r0 61 62 (.lreturn)) := ch74_0 (j := 13) rfl
theorem r74_62 : rowAt 74 62 = some (ra 62 63 (.lload_n 2) 2 0 0) := ch74_0 (j := 14) rfl
theorem r74_63 : rowAt 74 63 = some (ra 63 66 (.invokestatic 218) 165 1 858) := ch74_0 (j := 15) rfl
theorem r74_66 : rowAt 74 66 = some (r0 66 67 (.i2b)) := ch74_0 (j := 16) rfl
theorem r74_67 : rowAt 74 67 = some (r0 67 68 (.i2l)) := ch74_0 (j := 17) rfl
theorem r74_68 : rowAt 74 68 = some (r0 68 69 (.lreturn)) := ch74_0 (j := 18) rfl
theorem r74_69 : rowAt 74 69 = some (ra 69 70 (.lload_n 2) 2 0 0) := ch74_0 (j := 19) rfl
theorem r74_70 : rowAt 74 70 = some (ra 70 73 (.invokestatic 218) 165 1 858) := ch74_0 (j := 20) rfl
theorem r74_73 : rowAt 74 73 = some (r0 73 74 (.i2c)) := ch74_0 (j := 21) rfl
theorem r74_74 : rowAt 74 74 = some (r0 74 75 (.i2l)) := ch74_0 (j := 22) rfl
theorem r74_75 : rowAt 74 75 = some (r0 75 76 (.lreturn)) := ch74_0 (j := 23) rfl
theorem r74_76 : rowAt 74 76 = some (ra 76 79 (.getstatic 93) 46 0 494) := ch74_0 (j := 24) rfl
theorem r74_79 : rowAt 74 79 = some (ra 79 82 (.getstatic 180) 47 0 777) := ch74_0 (j := 25) rfl
theorem r74_82 : rowAt 74 82 = some (ra 82 83 (.lload_n 2) 2 0 0) := ch74_0 (j := 26) rfl
theorem r74_83 : rowAt 74 83 = some (ra 83 86 (.invokestatic 221) 166 3 864) := ch74_0 (j := 27) rfl
theorem r74_86 : rowAt 74 86 = some (r0 86 87 (.l2i)) := ch74_0 (j := 28) rfl
theorem r74_87 : rowAt 74 87 = some (r0 87 88 (.i2l)) := ch74_0 (j := 29) rfl
theorem r74_88 : rowAt 74 88 = some (r0 88 89 (.lreturn)) := ch74_0 (j := 30) rfl
theorem r74_89 : rowAt 74 89 = some (ra 89 92 (.getstatic 180) 47 0 777) := ch74_0 (j := 31) rfl
theorem r74_92 : rowAt 74 92 = some (ra 92 95 (.getstatic 93) 46 0 494) := ch74_0 (j := 32) rfl
theorem r74_95 : rowAt 74 95 = some (ra 95 96 (.lload_n 2) 2 0 0) := ch74_0 (j := 33) rfl
theorem r74_96 : rowAt 74 96 = some (ra 96 99 (.invokestatic 221) 166 3 864) := ch74_0 (j := 34) rfl
theorem r74_99 : rowAt 74 99 = some (r0 99 100 (.lreturn)) := ch74_0 (j := 35) rfl
theorem r74_100 : rowAt 74 100 = some (ra 100 103 (.new 147) 1 12 594) := ch74_0 (j := 36) rfl
theorem b74_0 {d : Nat} {q : Rs} {x0 : Nat} {x1 : Int32} {x2 : Int64} {σ : St} 
    (k : Er (d + 1) 74 (tsw 1 99 0 6 #[43, 48, 54, 61, 68, 75, 88] x1.toInt, [some (.ref x0), some (.int x1), some (.long x2), none], [], σ) q) :
    Er (d + 1) 74 (0, [some (.ref x0), some (.int x1), some (.long x2), none], [], σ) q := Er.sT (c2 := (1, [some (.ref x0), some (.int x1), some (.long x2), none], [.int x1], σ)) r74_0 rfl rfl <| Er.sT (c2 := (tsw 1 99 0 6 #[43, 48, 54, 61, 68, 75, 88] x1.toInt, [some (.ref x0), some (.int x1), some (.long x2), none], [], σ)) r74_1 rfl rfl <| k
theorem b74_44 {d : Nat} {q : Rs} {x0 : Nat} {x1 : Int32} {x2 : Int64} {σ : St} {σ2 : St} {r : Int64} 
    (hy : Er d 164 (0, ent 164 [.long x2], [], σ) (.inl (some (.long r)), σ2, 0))
    (k : Er (d + 1) 74 (48, [some (.ref x0), some (.int x1), some (.long x2), none], [.long r], σ2) q) :
    Er (d + 1) 74 (44, [some (.ref x0), some (.int x1), some (.long x2), none], [], σ) q := Er.sT (c2 := (45, [some (.ref x0), some (.int x1), some (.long x2), none], [.long x2], σ)) r74_44 rfl rfl <| (Er.call (vs := [.long x2]) (rest := []) r74_45 rfl rfl (Nat.le_of_ble_eq_true rfl) (Nat.le_of_ble_eq_true rfl) (fun h => absurd h (by decide +kernel)) hy k)
theorem b74_48 {d : Nat} {x0 : Nat} {x1 : Int32} {x2 : Int64} {s0 : Int64} {σ : St}  :
    Er (d + 1) 74 (48, [some (.ref x0), some (.int x1), some (.long x2), none], [.long s0], σ) (.inl (some (.long s0)), σ, 0) := (Er.ret r74_48 rfl ⟨_, rfl, rfl, rfl⟩)
theorem b74_49 {d : Nat} {q : Rs} {x0 : Nat} {x1 : Int32} {x2 : Int64} {σ : St} {σ2 : St} {r : Int32} 
    (hy : Er d 165 (0, ent 165 [.long x2], [], σ) (.inl (some (.int r)), σ2, 0))
    (k : Er (d + 1) 74 (53, [some (.ref x0), some (.int x1), some (.long x2), none], [.int r], σ2) q) :
    Er (d + 1) 74 (49, [some (.ref x0), some (.int x1), some (.long x2), none], [], σ) q := Er.sT (c2 := (50, [some (.ref x0), some (.int x1), some (.long x2), none], [.long x2], σ)) r74_49 rfl rfl <| (Er.call (vs := [.long x2]) (rest := []) r74_50 rfl rfl (Nat.le_of_ble_eq_true rfl) (Nat.le_of_ble_eq_true rfl) (fun h => absurd h (by decide +kernel)) hy k)
theorem b74_53 {d : Nat} {x0 : Nat} {x1 : Int32} {x2 : Int64} {s0 : Int32} {σ : St}  :
    Er (d + 1) 74 (53, [some (.ref x0), some (.int x1), some (.long x2), none], [.int s0], σ) (.inl (some (.long (s0.toInt64))), σ, 0) := Er.sT (c2 := (54, [some (.ref x0), some (.int x1), some (.long x2), none], [.long (s0.toInt64)], σ)) r74_53 rfl rfl <| (Er.ret r74_54 rfl ⟨_, rfl, rfl, rfl⟩)
theorem b74_55 {d : Nat} {q : Rs} {x0 : Nat} {x1 : Int32} {x2 : Int64} {σ : St} {σ2 : St} {r : Int32} 
    (hy : Er d 165 (0, ent 165 [.long x2], [], σ) (.inl (some (.int r)), σ2, 0))
    (k : Er (d + 1) 74 (59, [some (.ref x0), some (.int x1), some (.long x2), none], [.int r], σ2) q) :
    Er (d + 1) 74 (55, [some (.ref x0), some (.int x1), some (.long x2), none], [], σ) q := Er.sT (c2 := (56, [some (.ref x0), some (.int x1), some (.long x2), none], [.long x2], σ)) r74_55 rfl rfl <| (Er.call (vs := [.long x2]) (rest := []) r74_56 rfl rfl (Nat.le_of_ble_eq_true rfl) (Nat.le_of_ble_eq_true rfl) (fun h => absurd h (by decide +kernel)) hy k)
theorem b74_59 {d : Nat} {x0 : Nat} {x1 : Int32} {x2 : Int64} {s0 : Int32} {σ : St}  :
    Er (d + 1) 74 (59, [some (.ref x0), some (.int x1), some (.long x2), none], [.int s0], σ) (.inl (some (.long ((s0.toInt16.toInt32).toInt64))), σ, 0) := Er.sT (c2 := (60, [some (.ref x0), some (.int x1), some (.long x2), none], [.int (s0.toInt16.toInt32)], σ)) r74_59 rfl rfl <| Er.sT (c2 := (61, [some (.ref x0), some (.int x1), some (.long x2), none], [.long ((s0.toInt16.toInt32).toInt64)], σ)) r74_60 rfl rfl <| (Er.ret r74_61 rfl ⟨_, rfl, rfl, rfl⟩)
theorem b74_62 {d : Nat} {q : Rs} {x0 : Nat} {x1 : Int32} {x2 : Int64} {σ : St} {σ2 : St} {r : Int32} 
    (hy : Er d 165 (0, ent 165 [.long x2], [], σ) (.inl (some (.int r)), σ2, 0))
    (k : Er (d + 1) 74 (66, [some (.ref x0), some (.int x1), some (.long x2), none], [.int r], σ2) q) :
    Er (d + 1) 74 (62, [some (.ref x0), some (.int x1), some (.long x2), none], [], σ) q := Er.sT (c2 := (63, [some (.ref x0), some (.int x1), some (.long x2), none], [.long x2], σ)) r74_62 rfl rfl <| (Er.call (vs := [.long x2]) (rest := []) r74_63 rfl rfl (Nat.le_of_ble_eq_true rfl) (Nat.le_of_ble_eq_true rfl) (fun h => absurd h (by decide +kernel)) hy k)
theorem b74_66 {d : Nat} {x0 : Nat} {x1 : Int32} {x2 : Int64} {s0 : Int32} {σ : St}  :
    Er (d + 1) 74 (66, [some (.ref x0), some (.int x1), some (.long x2), none], [.int s0], σ) (.inl (some (.long ((s0.toInt8.toInt32).toInt64))), σ, 0) := Er.sT (c2 := (67, [some (.ref x0), some (.int x1), some (.long x2), none], [.int (s0.toInt8.toInt32)], σ)) r74_66 rfl rfl <| Er.sT (c2 := (68, [some (.ref x0), some (.int x1), some (.long x2), none], [.long ((s0.toInt8.toInt32).toInt64)], σ)) r74_67 rfl rfl <| (Er.ret r74_68 rfl ⟨_, rfl, rfl, rfl⟩)
theorem b74_69 {d : Nat} {q : Rs} {x0 : Nat} {x1 : Int32} {x2 : Int64} {σ : St} {σ2 : St} {r : Int32} 
    (hy : Er d 165 (0, ent 165 [.long x2], [], σ) (.inl (some (.int r)), σ2, 0))
    (k : Er (d + 1) 74 (73, [some (.ref x0), some (.int x1), some (.long x2), none], [.int r], σ2) q) :
    Er (d + 1) 74 (69, [some (.ref x0), some (.int x1), some (.long x2), none], [], σ) q := Er.sT (c2 := (70, [some (.ref x0), some (.int x1), some (.long x2), none], [.long x2], σ)) r74_69 rfl rfl <| (Er.call (vs := [.long x2]) (rest := []) r74_70 rfl rfl (Nat.le_of_ble_eq_true rfl) (Nat.le_of_ble_eq_true rfl) (fun h => absurd h (by decide +kernel)) hy k)
theorem b74_73 {d : Nat} {x0 : Nat} {x1 : Int32} {x2 : Int64} {s0 : Int32} {σ : St}  :
    Er (d + 1) 74 (73, [some (.ref x0), some (.int x1), some (.long x2), none], [.int s0], σ) (.inl (some (.long (((s0.toUInt32 % 65536).toInt32).toInt64))), σ, 0) := Er.sT (c2 := (74, [some (.ref x0), some (.int x1), some (.long x2), none], [.int ((s0.toUInt32 % 65536).toInt32)], σ)) r74_73 rfl rfl <| Er.sT (c2 := (75, [some (.ref x0), some (.int x1), some (.long x2), none], [.long (((s0.toUInt32 % 65536).toInt32).toInt64)], σ)) r74_74 rfl rfl <| (Er.ret r74_75 rfl ⟨_, rfl, rfl, rfl⟩)
theorem b74_76 {d : Nat} {q : Rs} {x0 : Nat} {x1 : Int32} {x2 : Int64} {σ : St} {σ2 : St} {r : Int64} 
    (hy : Er d 166 (0, ent 166 [.ref 46, .ref 47, .long x2], [], σ) (.inl (some (.long r)), σ2, 0))
    (k : Er (d + 1) 74 (86, [some (.ref x0), some (.int x1), some (.long x2), none], [.long r], σ2) q) :
    Er (d + 1) 74 (76, [some (.ref x0), some (.int x1), some (.long x2), none], [], σ) q := Er.sT (c2 := (79, [some (.ref x0), some (.int x1), some (.long x2), none], [.ref 46], σ)) r74_76 rfl rfl <| Er.sT (c2 := (82, [some (.ref x0), some (.int x1), some (.long x2), none], [.ref 47, .ref 46], σ)) r74_79 rfl rfl <| Er.sT (c2 := (83, [some (.ref x0), some (.int x1), some (.long x2), none], [.long x2, .ref 47, .ref 46], σ)) r74_82 rfl rfl <| (Er.call (vs := [.ref 46, .ref 47, .long x2]) (rest := []) r74_83 rfl rfl (Nat.le_of_ble_eq_true rfl) (Nat.le_of_ble_eq_true rfl) (fun h => absurd h (by decide +kernel)) hy k)
theorem b74_86 {d : Nat} {x0 : Nat} {x1 : Int32} {x2 : Int64} {s0 : Int64} {σ : St}  :
    Er (d + 1) 74 (86, [some (.ref x0), some (.int x1), some (.long x2), none], [.long s0], σ) (.inl (some (.long ((s0.toInt32).toInt64))), σ, 0) := Er.sT (c2 := (87, [some (.ref x0), some (.int x1), some (.long x2), none], [.int (s0.toInt32)], σ)) r74_86 rfl rfl <| Er.sT (c2 := (88, [some (.ref x0), some (.int x1), some (.long x2), none], [.long ((s0.toInt32).toInt64)], σ)) r74_87 rfl rfl <| (Er.ret r74_88 rfl ⟨_, rfl, rfl, rfl⟩)
theorem b74_89 {d : Nat} {q : Rs} {x0 : Nat} {x1 : Int32} {x2 : Int64} {σ : St} {σ2 : St} {r : Int64} 
    (hy : Er d 166 (0, ent 166 [.ref 47, .ref 46, .long x2], [], σ) (.inl (some (.long r)), σ2, 0))
    (k : Er (d + 1) 74 (99, [some (.ref x0), some (.int x1), some (.long x2), none], [.long r], σ2) q) :
    Er (d + 1) 74 (89, [some (.ref x0), some (.int x1), some (.long x2), none], [], σ) q := Er.sT (c2 := (92, [some (.ref x0), some (.int x1), some (.long x2), none], [.ref 47], σ)) r74_89 rfl rfl <| Er.sT (c2 := (95, [some (.ref x0), some (.int x1), some (.long x2), none], [.ref 46, .ref 47], σ)) r74_92 rfl rfl <| Er.sT (c2 := (96, [some (.ref x0), some (.int x1), some (.long x2), none], [.long x2, .ref 46, .ref 47], σ)) r74_95 rfl rfl <| (Er.call (vs := [.ref 47, .ref 46, .long x2]) (rest := []) r74_96 rfl rfl (Nat.le_of_ble_eq_true rfl) (Nat.le_of_ble_eq_true rfl) (fun h => absurd h (by decide +kernel)) hy k)
theorem b74_99 {d : Nat} {x0 : Nat} {x1 : Int32} {x2 : Int64} {s0 : Int64} {σ : St}  :
    Er (d + 1) 74 (99, [some (.ref x0), some (.int x1), some (.long x2), none], [.long s0], σ) (.inl (some (.long s0)), σ, 0) := (Er.ret r74_99 rfl ⟨_, rfl, rfl, rfl⟩)
theorem b74_100 {d : Nat} {x0 : Nat} {x1 : Int32} {x2 : Int64} {σ : St}  :
    Er (d + 6) 74 (100, [some (.ref x0), some (.int x1), some (.long x2), none], [], σ) (.inr 1, σ, 1) := (Er.thr r74_100 rfl rfl)
