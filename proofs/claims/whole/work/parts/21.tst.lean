/-! NumberModels$Natural.measure(I)V -/
theorem b13_0 {d : Nat} {q : Rs} {x0 : Nat} {x1 : Int32} {σ : St} 
    (kt : (20 : Int32) ≤ x1 → Er (d + 1) 13 (11, [some (.ref x0), some (.int x1)], [.ref x0], σ) q)
    (kf : ¬ (20 : Int32) ≤ x1 → Er (d + 1) 13 (7, [some (.ref x0), some (.int x1)], [.ref x0], σ) q) :
    Er (d + 1) 13 (0, [some (.ref x0), some (.int x1)], [], σ) q := Er.blk (k := 4) (P := True ∧ True ∧ True ∧ True ∧ True) (c2 := (brn .ge x1 (20 : Int32) 11 7, [some (.ref x0), some (.int x1)], [.ref x0], σ)) rfl ⟨trivial, trivial, trivial, trivial, trivial⟩ (br_ge kt kf)
theorem b13_7 {d : Nat} {q : Rs} {x0 : Nat} {x1 : Int32} {s0 : Nat} {σ : St} 
    (k : Er (d + 1) 13 (13, [some (.ref x0), some (.int x1)], [.int x1, .ref s0], σ) q) :
    Er (d + 1) 13 (7, [some (.ref x0), some (.int x1)], [.ref s0], σ) q := Er.blk (k := 2) (P := True ∧ True ∧ True) (c2 := (13, [some (.ref x0), some (.int x1)], [.int x1, .ref s0], σ)) rfl ⟨trivial, trivial, trivial⟩ k
theorem b13_11 {d : Nat} {q : Rs} {x0 : Nat} {x1 : Int32} {s0 : Nat} {σ : St} 
    (k : Er (d + 1) 13 (13, [some (.ref x0), some (.int x1)], [.int (20 : Int32), .ref s0], σ) q) :
    Er (d + 1) 13 (11, [some (.ref x0), some (.int x1)], [.ref s0], σ) q := Er.blk (k := 1) (P := True ∧ True) (c2 := (13, [some (.ref x0), some (.int x1)], [.int (20 : Int32), .ref s0], σ)) rfl ⟨trivial, trivial⟩ k
theorem b13_13 {d : Nat} {q : Rs} {x0 : Nat} {x1 : Int32} {s0 : Nat} {s1 : Int32} {σ : St} (h1 : s0 < 24 ∧ kls s0 = 2 ∧ ft 2 1 = 0)
    (k : Er (d + 1) 13 (16, [some (.ref x0), some (.int x1)], [], (sfi σ s0 1 s1)) q) :
    Er (d + 1) 13 (13, [some (.ref x0), some (.int x1)], [.int s1, .ref s0], σ) q := Er.blk (k := 1) (P := (s0 < 24 ∧ kls s0 = 2 ∧ ft 2 1 = 0) ∧ True) (c2 := (16, [some (.ref x0), some (.int x1)], [], (sfi σ s0 1 s1))) rfl ⟨h1, trivial⟩ k
theorem b13_16 {d : Nat} {q : Rs} {x0 : Nat} {x1 : Int32} {σ : St} (h1 : x0 < 24 ∧ kls x0 = 2)
    (kt : (gfi σ x0 1) ≤ (0 : Int32) → Er (d + 1) 13 (52, [some (.ref x0), some (.int x1)], [], σ) q)
    (kf : ¬ (gfi σ x0 1) ≤ (0 : Int32) → Er (d + 1) 13 (23, [some (.ref x0), some (.int x1)], [], σ) q) :
    Er (d + 1) 13 (16, [some (.ref x0), some (.int x1)], [], σ) q := Er.blk (k := 3) (P := True ∧ (x0 < 24 ∧ kls x0 = 2) ∧ True ∧ True) (c2 := (brn .le (gfi σ x0 1) (0 : Int32) 52 23, [some (.ref x0), some (.int x1)], [], σ)) rfl ⟨trivial, h1, trivial, trivial⟩ (br_le kt kf)
theorem b13_23 {d : Nat} {q : Rs} {x0 : Nat} {x1 : Int32} {σ : St} (h1 : x0 < 24 ∧ kls x0 = 2) (h2 : isL (fr x0 0) ∧ vp_in ((gfi σ x0 1) - (1 : Int32)) (ale (fr x0 0)))
    (kt : ¬ (gal σ (fr x0 0) ((gfi σ x0 1) - (1 : Int32)).toNatClampNeg) = (0 : Int64) → Er (d + 1) 13 (52, [some (.ref x0), some (.int x1)], [], σ) q)
    (kf : (gal σ (fr x0 0) ((gfi σ x0 1) - (1 : Int32)).toNatClampNeg) = (0 : Int64) → Er (d + 1) 13 (39, [some (.ref x0), some (.int x1)], [], σ) q) :
    Er (d + 1) 13 (23, [some (.ref x0), some (.int x1)], [], σ) q := Er.blk (k := 10) (P := True ∧ (x0 < 24 ∧ kls x0 = 2) ∧ True ∧ (x0 < 24 ∧ kls x0 = 2) ∧ True ∧ True ∧ (isL (fr x0 0) ∧ vp_in ((gfi σ x0 1) - (1 : Int32)) (ale (fr x0 0))) ∧ True ∧ True ∧ True ∧ True) (c2 := (brn .ne (lg_cmp (gal σ (fr x0 0) ((gfi σ x0 1) - (1 : Int32)).toNatClampNeg) (0 : Int64)) (0 : Int32) 52 39, [some (.ref x0), some (.int x1)], [], σ)) rfl ⟨trivial, h1, trivial, h1, trivial, trivial, h2, trivial, trivial, trivial, trivial⟩ (bl_ne kt kf)
theorem b13_39 {d : Nat} {q : Rs} {x0 : Nat} {x1 : Int32} {σ : St} (h1 : x0 < 24 ∧ kls x0 = 2) (h2 : x0 < 24 ∧ kls x0 = 2 ∧ ft 2 1 = 0)
    (k : Er (d + 1) 13 (16, [some (.ref x0), some (.int x1)], [], (sfi σ x0 1 ((gfi σ x0 1) - (1 : Int32)))) q) :
    Er (d + 1) 13 (39, [some (.ref x0), some (.int x1)], [], σ) q := Er.blk (k := 7) (P := True ∧ True ∧ (x0 < 24 ∧ kls x0 = 2) ∧ True ∧ True ∧ (x0 < 24 ∧ kls x0 = 2 ∧ ft 2 1 = 0) ∧ True ∧ True) (c2 := (16, [some (.ref x0), some (.int x1)], [], (sfi σ x0 1 ((gfi σ x0 1) - (1 : Int32))))) rfl ⟨trivial, trivial, h1, trivial, trivial, h2, trivial, trivial⟩ k
theorem b13_52 {d : Nat} {x0 : Nat} {x1 : Int32} {σ : St}  :
    Er (d + 1) 13 (52, [some (.ref x0), some (.int x1)], [], σ) (.inl none, σ, 0) := (Er.ret rfl rfl ⟨rfl, rfl, rfl⟩)
/-! NumberModels$Natural.wipe()V -/
theorem b12_0 {d : Nat} {q : Rs} {x0 : Nat} {o1 : Option Value} {σ : St} 
    (k : Er (d + 1) 12 (2, [some (.ref x0), some (.int (0 : Int32))], [], σ) q) :
    Er (d + 1) 12 (0, [some (.ref x0), o1], [], σ) q := Er.blk (k := 2) (P := True ∧ True ∧ True) (c2 := (2, [some (.ref x0), some (.int (0 : Int32))], [], σ)) rfl ⟨trivial, trivial, trivial⟩ k
theorem b12_2 {d : Nat} {q : Rs} {x0 : Nat} {x1 : Int32} {σ : St} (h1 : x0 < 24 ∧ kls x0 = 2)
    (kt : (gfi σ x0 1) ≤ x1 → Er (d + 1) 12 (23, [some (.ref x0), some (.int x1)], [], σ) q)
    (kf : ¬ (gfi σ x0 1) ≤ x1 → Er (d + 1) 12 (10, [some (.ref x0), some (.int x1)], [], σ) q) :
    Er (d + 1) 12 (2, [some (.ref x0), some (.int x1)], [], σ) q := Er.blk (k := 4) (P := True ∧ True ∧ (x0 < 24 ∧ kls x0 = 2) ∧ True ∧ True) (c2 := (brn .ge x1 (gfi σ x0 1) 23 10, [some (.ref x0), some (.int x1)], [], σ)) rfl ⟨trivial, trivial, h1, trivial, trivial⟩ (br_ge kt kf)
theorem b12_10 {d : Nat} {q : Rs} {x0 : Nat} {x1 : Int32} {σ : St} (h1 : x0 < 24 ∧ kls x0 = 2) (h2 : isL (fr x0 0) ∧ vp_in x1 (ale (fr x0 0)))
    (k : Er (d + 1) 12 (2, [some (.ref x0), some (.int (x1 + (1 : Int32)))], [], (sal σ (fr x0 0) x1.toNatClampNeg (0 : Int64))) q) :
    Er (d + 1) 12 (10, [some (.ref x0), some (.int x1)], [], σ) q := Er.blk (k := 7) (P := True ∧ (x0 < 24 ∧ kls x0 = 2) ∧ True ∧ True ∧ (isL (fr x0 0) ∧ vp_in x1 (ale (fr x0 0))) ∧ True ∧ True ∧ True) (c2 := (2, [some (.ref x0), some (.int (x1 + (1 : Int32)))], [], (sal σ (fr x0 0) x1.toNatClampNeg (0 : Int64)))) rfl ⟨trivial, h1, trivial, trivial, h2, trivial, trivial, trivial⟩ k
theorem b12_23 {d : Nat} {x0 : Nat} {x1 : Int32} {σ : St} (h1 : x0 < 24 ∧ kls x0 = 2 ∧ ft 2 1 = 0) :
    Er (d + 1) 12 (23, [some (.ref x0), some (.int x1)], [], σ) (.inl none, (sfi σ x0 1 (0 : Int32)), 0) := Er.blk (k := 3) (P := True ∧ True ∧ (x0 < 24 ∧ kls x0 = 2 ∧ ft 2 1 = 0) ∧ True) (c2 := (28, [some (.ref x0), some (.int x1)], [], (sfi σ x0 1 (0 : Int32)))) rfl ⟨trivial, trivial, h1, trivial⟩ (Er.ret rfl rfl ⟨rfl, rfl, rfl⟩)
/-! NumberModels$Natural.isZero()Z -/
theorem b17_0 {d : Nat} {q : Rs} {x0 : Nat} {σ : St} (h1 : x0 < 24 ∧ kls x0 = 2)
    (kt : ¬ (gfi σ x0 1) = (0 : Int32) → Er (d + 1) 17 (11, [some (.ref x0)], [], σ) q)
    (kf : (gfi σ x0 1) = (0 : Int32) → Er (d + 1) 17 (7, [some (.ref x0)], [], σ) q) :
    Er (d + 1) 17 (0, [some (.ref x0)], [], σ) q := Er.blk (k := 3) (P := True ∧ (x0 < 24 ∧ kls x0 = 2) ∧ True ∧ True) (c2 := (brn .ne (gfi σ x0 1) (0 : Int32) 11 7, [some (.ref x0)], [], σ)) rfl ⟨trivial, h1, trivial, trivial⟩ (br_ne kt kf)
theorem b17_7 {d : Nat} {q : Rs} {x0 : Nat} {σ : St} 
    (k : Er (d + 1) 17 (12, [some (.ref x0)], [.int (1 : Int32)], σ) q) :
    Er (d + 1) 17 (7, [some (.ref x0)], [], σ) q := Er.blk (k := 2) (P := True ∧ True ∧ True) (c2 := (12, [some (.ref x0)], [.int (1 : Int32)], σ)) rfl ⟨trivial, trivial, trivial⟩ k
theorem b17_11 {d : Nat} {q : Rs} {x0 : Nat} {σ : St} 
    (k : Er (d + 1) 17 (12, [some (.ref x0)], [.int (0 : Int32)], σ) q) :
    Er (d + 1) 17 (11, [some (.ref x0)], [], σ) q := Er.blk (k := 1) (P := True ∧ True) (c2 := (12, [some (.ref x0)], [.int (0 : Int32)], σ)) rfl ⟨trivial, trivial⟩ k
theorem b17_12 {d : Nat} {x0 : Nat} {s0 : Int32} {σ : St} (hz : narrow .boolean (.int s0) = .int s0) :
    Er (d + 1) 17 (12, [some (.ref x0)], [.int s0], σ) (.inl (some (.int s0)), σ, 0) := (Er.ret rfl rfl ⟨_, _, rfl, rfl, hz, rfl⟩)
/-! NumberModels$Natural.isOne()Z -/
theorem b18_0 {d : Nat} {q : Rs} {x0 : Nat} {σ : St} (h1 : x0 < 24 ∧ kls x0 = 2)
    (kt : ¬ (gfi σ x0 1) = (1 : Int32) → Er (d + 1) 18 (23, [some (.ref x0)], [], σ) q)
    (kf : (gfi σ x0 1) = (1 : Int32) → Er (d + 1) 18 (8, [some (.ref x0)], [], σ) q) :
    Er (d + 1) 18 (0, [some (.ref x0)], [], σ) q := Er.blk (k := 4) (P := True ∧ (x0 < 24 ∧ kls x0 = 2) ∧ True ∧ True ∧ True) (c2 := (brn .ne (gfi σ x0 1) (1 : Int32) 23 8, [some (.ref x0)], [], σ)) rfl ⟨trivial, h1, trivial, trivial, trivial⟩ (br_ne kt kf)
theorem b18_8 {d : Nat} {q : Rs} {x0 : Nat} {σ : St} (h1 : x0 < 24 ∧ kls x0 = 2) (h2 : isL (fr x0 0) ∧ vp_in (0 : Int32) (ale (fr x0 0)))
    (kt : ¬ (gal σ (fr x0 0) (0 : Int32).toNatClampNeg) = (1 : Int64) → Er (d + 1) 18 (23, [some (.ref x0)], [], σ) q)
    (kf : (gal σ (fr x0 0) (0 : Int32).toNatClampNeg) = (1 : Int64) → Er (d + 1) 18 (19, [some (.ref x0)], [], σ) q) :
    Er (d + 1) 18 (8, [some (.ref x0)], [], σ) q := Er.blk (k := 7) (P := True ∧ (x0 < 24 ∧ kls x0 = 2) ∧ True ∧ (isL (fr x0 0) ∧ vp_in (0 : Int32) (ale (fr x0 0))) ∧ True ∧ True ∧ True ∧ True) (c2 := (brn .ne (lg_cmp (gal σ (fr x0 0) (0 : Int32).toNatClampNeg) (1 : Int64)) (0 : Int32) 23 19, [some (.ref x0)], [], σ)) rfl ⟨trivial, h1, trivial, h2, trivial, trivial, trivial, trivial⟩ (bl_ne kt kf)
theorem b18_19 {d : Nat} {q : Rs} {x0 : Nat} {σ : St} 
    (k : Er (d + 1) 18 (24, [some (.ref x0)], [.int (1 : Int32)], σ) q) :
    Er (d + 1) 18 (19, [some (.ref x0)], [], σ) q := Er.blk (k := 2) (P := True ∧ True ∧ True) (c2 := (24, [some (.ref x0)], [.int (1 : Int32)], σ)) rfl ⟨trivial, trivial, trivial⟩ k
theorem b18_23 {d : Nat} {q : Rs} {x0 : Nat} {σ : St} 
    (k : Er (d + 1) 18 (24, [some (.ref x0)], [.int (0 : Int32)], σ) q) :
    Er (d + 1) 18 (23, [some (.ref x0)], [], σ) q := Er.blk (k := 1) (P := True ∧ True) (c2 := (24, [some (.ref x0)], [.int (0 : Int32)], σ)) rfl ⟨trivial, trivial⟩ k
theorem b18_24 {d : Nat} {x0 : Nat} {s0 : Int32} {σ : St} (hz : narrow .boolean (.int s0) = .int s0) :
    Er (d + 1) 18 (24, [some (.ref x0)], [.int s0], σ) (.inl (some (.int s0)), σ, 0) := (Er.ret rfl rfl ⟨_, _, rfl, rfl, hz, rfl⟩)
/-! NumberModels$Natural.wordAt(I)J -/
theorem b15_0 {d : Nat} {q : Rs} {x0 : Nat} {x1 : Int32} {σ : St} 
    (kt : x1 < (0 : Int32) → Er (d + 1) 15 (19, [some (.ref x0), some (.int x1)], [], σ) q)
    (kf : ¬ x1 < (0 : Int32) → Er (d + 1) 15 (4, [some (.ref x0), some (.int x1)], [], σ) q) :
    Er (d + 1) 15 (0, [some (.ref x0), some (.int x1)], [], σ) q := Er.blk (k := 2) (P := True ∧ True ∧ True) (c2 := (brn .lt x1 (0 : Int32) 19 4, [some (.ref x0), some (.int x1)], [], σ)) rfl ⟨trivial, trivial, trivial⟩ (br_lt kt kf)
theorem b15_4 {d : Nat} {q : Rs} {x0 : Nat} {x1 : Int32} {σ : St} 
    (kt : (20 : Int32) ≤ x1 → Er (d + 1) 15 (19, [some (.ref x0), some (.int x1)], [], σ) q)
    (kf : ¬ (20 : Int32) ≤ x1 → Er (d + 1) 15 (10, [some (.ref x0), some (.int x1)], [], σ) q) :
    Er (d + 1) 15 (4, [some (.ref x0), some (.int x1)], [], σ) q := Er.blk (k := 3) (P := True ∧ True ∧ True ∧ True) (c2 := (brn .ge x1 (20 : Int32) 19 10, [some (.ref x0), some (.int x1)], [], σ)) rfl ⟨trivial, trivial, trivial, trivial⟩ (br_ge kt kf)
theorem b15_10 {d : Nat} {q : Rs} {x0 : Nat} {x1 : Int32} {σ : St} (h1 : x0 < 24 ∧ kls x0 = 2) (h2 : isL (fr x0 0) ∧ vp_in x1 (ale (fr x0 0)))
    (k : Er (d + 1) 15 (20, [some (.ref x0), some (.int x1)], [.long (gal σ (fr x0 0) x1.toNatClampNeg)], σ) q) :
    Er (d + 1) 15 (10, [some (.ref x0), some (.int x1)], [], σ) q := Er.blk (k := 5) (P := True ∧ (x0 < 24 ∧ kls x0 = 2) ∧ True ∧ (isL (fr x0 0) ∧ vp_in x1 (ale (fr x0 0))) ∧ True ∧ True) (c2 := (20, [some (.ref x0), some (.int x1)], [.long (gal σ (fr x0 0) x1.toNatClampNeg)], σ)) rfl ⟨trivial, h1, trivial, h2, trivial, trivial⟩ k
theorem b15_19 {d : Nat} {q : Rs} {x0 : Nat} {x1 : Int32} {σ : St} 
    (k : Er (d + 1) 15 (20, [some (.ref x0), some (.int x1)], [.long (0 : Int64)], σ) q) :
    Er (d + 1) 15 (19, [some (.ref x0), some (.int x1)], [], σ) q := Er.blk (k := 1) (P := True ∧ True) (c2 := (20, [some (.ref x0), some (.int x1)], [.long (0 : Int64)], σ)) rfl ⟨trivial, trivial⟩ k
theorem b15_20 {d : Nat} {x0 : Nat} {x1 : Int32} {s0 : Int64} {σ : St}  :
    Er (d + 1) 15 (20, [some (.ref x0), some (.int x1)], [.long s0], σ) (.inl (some (.long s0)), σ, 0) := (Er.ret rfl rfl ⟨_, rfl, rfl, rfl⟩)
/-! NumberModels$Natural.lowest()J -/
theorem b24_0 {d : Nat} {x0 : Nat} {σ : St} (h1 : x0 < 24 ∧ kls x0 = 2) (h2 : isL (fr x0 0) ∧ vp_in (1 : Int32) (ale (fr x0 0))) (h3 : isL (fr x0 0) ∧ vp_in (0 : Int32) (ale (fr x0 0))) :
    Er (d + 1) 24 (0, [some (.ref x0)], [], σ) (.inl (some (.long (((gal σ (fr x0 0) (1 : Int32).toNatClampNeg) <<< ((32 : Int32).toInt64 &&& 63)) ||| (gal σ (fr x0 0) (0 : Int32).toNatClampNeg)))), σ, 0) := Er.blk (k := 11) (P := True ∧ (x0 < 24 ∧ kls x0 = 2) ∧ True ∧ (isL (fr x0 0) ∧ vp_in (1 : Int32) (ale (fr x0 0))) ∧ True ∧ True ∧ True ∧ (x0 < 24 ∧ kls x0 = 2) ∧ True ∧ (isL (fr x0 0) ∧ vp_in (0 : Int32) (ale (fr x0 0))) ∧ True ∧ True) (c2 := (16, [some (.ref x0)], [.long (((gal σ (fr x0 0) (1 : Int32).toNatClampNeg) <<< ((32 : Int32).toInt64 &&& 63)) ||| (gal σ (fr x0 0) (0 : Int32).toNatClampNeg))], σ)) rfl ⟨trivial, h1, trivial, h2, trivial, trivial, trivial, h1, trivial, h3, trivial, trivial⟩ (Er.ret rfl rfl ⟨_, rfl, rfl, rfl⟩)
/-! NumberModels$Natural.length()I -/
theorem b14_0 {d : Nat} {q : Rs} {x0 : Nat} {σ : St} (h1 : x0 < 24 ∧ kls x0 = 2)
    (kt : ¬ (gfi σ x0 1) = (0 : Int32) → Er (d + 1) 14 (11, [some (.ref x0)], [], σ) q)
    (kf : (gfi σ x0 1) = (0 : Int32) → Er (d + 1) 14 (7, [some (.ref x0)], [], σ) q) :
    Er (d + 1) 14 (0, [some (.ref x0)], [], σ) q := Er.blk (k := 3) (P := True ∧ (x0 < 24 ∧ kls x0 = 2) ∧ True ∧ True) (c2 := (brn .ne (gfi σ x0 1) (0 : Int32) 11 7, [some (.ref x0)], [], σ)) rfl ⟨trivial, h1, trivial, trivial⟩ (br_ne kt kf)
theorem b14_7 {d : Nat} {q : Rs} {x0 : Nat} {σ : St} 
    (k : Er (d + 1) 14 (34, [some (.ref x0)], [.int (0 : Int32)], σ) q) :
    Er (d + 1) 14 (7, [some (.ref x0)], [], σ) q := Er.blk (k := 2) (P := True ∧ True ∧ True) (c2 := (34, [some (.ref x0)], [.int (0 : Int32)], σ)) rfl ⟨trivial, trivial, trivial⟩ k
theorem b14_11 {d : Nat} {q : Rs} {x0 : Nat} {σ : St} {σ2 : St} {r : Int64} (h1 : x0 < 24 ∧ kls x0 = 2)
    (hy : Er d 15 (0, ent 15 [.ref x0, .int ((gfi σ x0 1) - (1 : Int32))], [], σ) (.inl (some (.long r)), σ2, 0))
    (k : Er (d + 1) 14 (30, [some (.ref x0)], [.long r, .int (((gfi σ x0 1) - (1 : Int32)) * (32 : Int32))], σ2) q) :
    Er (d + 1) 14 (11, [some (.ref x0)], [], σ) q := Er.blk (k := 11) (P := True ∧ (x0 < 24 ∧ kls x0 = 2) ∧ True ∧ True ∧ True ∧ True ∧ True ∧ True ∧ (x0 < 24 ∧ kls x0 = 2) ∧ True ∧ True ∧ True) (c2 := (27, [some (.ref x0)], [.int ((gfi σ x0 1) - (1 : Int32)), .ref x0, .int (((gfi σ x0 1) - (1 : Int32)) * (32 : Int32))], σ)) rfl ⟨trivial, h1, trivial, trivial, trivial, trivial, trivial, trivial, h1, trivial, trivial, trivial⟩ (Er.call (vs := [.ref x0, .int ((gfi σ x0 1) - (1 : Int32))]) (rest := [.int (((gfi σ x0 1) - (1 : Int32)) * (32 : Int32))]) rfl rfl rfl (Nat.le_of_ble_eq_true rfl) (Nat.le_of_ble_eq_true rfl) (fun _ => ⟨_, _, rfl, h1⟩) hy k)
theorem b14_30 {d : Nat} {q : Rs} {x0 : Nat} {s0 : Int32} {s1 : Int64} {σ : St} {σ2 : St} {r : Int32} 
    (hy : Er d 44 (0, ent 44 [.long s1], [], σ) (.inl (some (.int r)), σ2, 0))
    (k : Er (d + 1) 14 (33, [some (.ref x0)], [.int r, .int s0], σ2) q) :
    Er (d + 1) 14 (30, [some (.ref x0)], [.long s1, .int s0], σ) q := (Er.call (vs := [.long s1]) (rest := [.int s0]) rfl rfl rfl (Nat.le_of_ble_eq_true rfl) (Nat.le_of_ble_eq_true rfl) (fun h => absurd h (by decide +kernel)) hy k)
theorem b14_33 {d : Nat} {q : Rs} {x0 : Nat} {s0 : Int32} {s1 : Int32} {σ : St} 
    (k : Er (d + 1) 14 (34, [some (.ref x0)], [.int (s0 + s1)], σ) q) :
    Er (d + 1) 14 (33, [some (.ref x0)], [.int s1, .int s0], σ) q := Er.blk (k := 1) (P := True ∧ True) (c2 := (34, [some (.ref x0)], [.int (s0 + s1)], σ)) rfl ⟨trivial, trivial⟩ k
theorem b14_34 {d : Nat} {x0 : Nat} {s0 : Int32} {σ : St}  :
    Er (d + 1) 14 (34, [some (.ref x0)], [.int s0], σ) (.inl (some (.int s0)), σ, 0) := (Er.ret rfl rfl ⟨_, _, rfl, rfl, rfl, rfl⟩)
/-! NumberModels$Natural.take(J)V -/
theorem b11_0 {d : Nat} {q : Rs} {x0 : Nat} {x1 : Int64} {σ : St} {σ2 : St}  (h1 : x0 < 24 ∧ kls x0 = 2)
    (hy : Er d 12 (0, ent 12 [.ref x0], [], σ) (.inl none, σ2, 0))
    (k : Er (d + 1) 11 (4, [some (.ref x0), some (.long x1), none], [], σ2) q) :
    Er (d + 1) 11 (0, [some (.ref x0), some (.long x1), none], [], σ) q := Er.blk (k := 1) (P := True ∧ True) (c2 := (1, [some (.ref x0), some (.long x1), none], [.ref x0], σ)) rfl ⟨trivial, trivial⟩ (Er.call (vs := [.ref x0]) (rest := []) rfl rfl rfl (Nat.le_of_ble_eq_true rfl) (Nat.le_of_ble_eq_true rfl) (fun _ => ⟨_, _, rfl, h1⟩) hy k)
theorem b11_4 {d : Nat} {q : Rs} {x0 : Nat} {x1 : Int64} {σ : St} {σ2 : St}  (h1 : x0 < 24 ∧ kls x0 = 2) (h2 : isL (fr x0 0) ∧ vp_in (0 : Int32) (ale (fr x0 0))) (h3 : isL (fr x0 0) ∧ vp_in (1 : Int32) (ale (fr x0 0)))
    (hy : Er d 13 (0, ent 13 [.ref x0, .int (2 : Int32)], [], (sal (sal σ (fr x0 0) (0 : Int32).toNatClampNeg (x1 &&& (4294967295 : Int64))) (fr x0 0) (1 : Int32).toNatClampNeg ((x1.toUInt64 >>> ((32 : Int32).toInt64.toUInt64 &&& Int64.toUInt64 63)).toInt64))) (.inl none, σ2, 0))
    (k : Er (d + 1) 11 (30, [some (.ref x0), some (.long x1), none], [], σ2) q) :
    Er (d + 1) 11 (4, [some (.ref x0), some (.long x1), none], [], σ) q := Er.blk (k := 16) (P := True ∧ (x0 < 24 ∧ kls x0 = 2) ∧ True ∧ True ∧ True ∧ True ∧ (isL (fr x0 0) ∧ vp_in (0 : Int32) (ale (fr x0 0))) ∧ True ∧ (x0 < 24 ∧ kls x0 = 2) ∧ True ∧ True ∧ True ∧ True ∧ (isL (fr x0 0) ∧ vp_in (1 : Int32) (ale (fr x0 0))) ∧ True ∧ True ∧ True) (c2 := (27, [some (.ref x0), some (.long x1), none], [.int (2 : Int32), .ref x0], (sal (sal σ (fr x0 0) (0 : Int32).toNatClampNeg (x1 &&& (4294967295 : Int64))) (fr x0 0) (1 : Int32).toNatClampNeg ((x1.toUInt64 >>> ((32 : Int32).toInt64.toUInt64 &&& Int64.toUInt64 63)).toInt64)))) rfl ⟨trivial, h1, trivial, trivial, trivial, trivial, h2, trivial, h1, trivial, trivial, trivial, trivial, h3, trivial, trivial, trivial⟩ (Er.call (vs := [.ref x0, .int (2 : Int32)]) (rest := []) rfl rfl rfl (Nat.le_of_ble_eq_true rfl) (Nat.le_of_ble_eq_true rfl) (fun _ => ⟨_, _, rfl, h1⟩) hy k)
theorem b11_30 {d : Nat} {x0 : Nat} {x1 : Int64} {σ : St}  :
    Er (d + 1) 11 (30, [some (.ref x0), some (.long x1), none], [], σ) (.inl none, σ, 0) := (Er.ret rfl rfl ⟨rfl, rfl, rfl⟩)
/-! NumberModels$Natural.take(LNumberModels$Natural;)V -/
theorem b19_0 {d : Nat} {x0 : Nat} {x1 : Nat} {σ : St} (h1 : x1 < 24 ∧ kls x1 = 2) (h2 : x0 < 24 ∧ kls x0 = 2) (h3 : (24 ≤ (fr x1 0) ∧ (fr x1 0) < 40) ∧ (24 ≤ (fr x0 0) ∧ (fr x0 0) < 40) ∧ (0 : Int32) = 0 ∧ (0 : Int32) = 0 ∧ (20 : Int32) = 20 ∧ 0 ≤ 8) (h4 : x0 < 24 ∧ kls x0 = 2 ∧ ft 2 1 = 0) :
    Er (d + 1) 19 (0, [some (.ref x0), some (.ref x1)], [], σ) (.inl none, (sfi (sar σ (fr x0 0) (va_cpy (gal σ (fr x1 0)) (gal σ (fr x0 0)) 0 0 20)) x0 1 (gfi (sar σ (fr x0 0) (va_cpy (gal σ (fr x1 0)) (gal σ (fr x0 0)) 0 0 20)) x1 1)), 0) := Er.blk (k := 12) (P := True ∧ (x1 < 24 ∧ kls x1 = 2) ∧ True ∧ True ∧ (x0 < 24 ∧ kls x0 = 2) ∧ True ∧ True ∧ ((24 ≤ (fr x1 0) ∧ (fr x1 0) < 40) ∧ (24 ≤ (fr x0 0) ∧ (fr x0 0) < 40) ∧ (0 : Int32) = 0 ∧ (0 : Int32) = 0 ∧ (20 : Int32) = 20 ∧ 0 ≤ 8) ∧ True ∧ True ∧ (x1 < 24 ∧ kls x1 = 2) ∧ (x0 < 24 ∧ kls x0 = 2 ∧ ft 2 1 = 0) ∧ True) (c2 := (23, [some (.ref x0), some (.ref x1)], [], (sfi (sar σ (fr x0 0) (va_cpy (gal σ (fr x1 0)) (gal σ (fr x0 0)) 0 0 20)) x0 1 (gfi (sar σ (fr x0 0) (va_cpy (gal σ (fr x1 0)) (gal σ (fr x0 0)) 0 0 20)) x1 1)))) rfl ⟨trivial, h1, trivial, trivial, h2, trivial, trivial, h3, trivial, trivial, h1, h4, trivial⟩ (Er.ret rfl rfl ⟨rfl, rfl, rfl⟩)
