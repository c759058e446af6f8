def srt : List Row → Bool
  | [] => true
  | a :: t => t.all (fun b => Nat.blt a.1 b.1) && srt t
theorem srt_find : ∀ {l : List Row} {r : Row}, srt l = true → r ∈ l → l.find? (fun x => Nat.beq x.1 r.1) = some r
  | [], r, _, h => by cases h
  | a :: t, r, hs, h => by
    simp only [srt, Bool.and_eq_true] at hs
    rcases List.mem_cons.mp h with rfl | h
    · rw [List.find?_cons_of_pos]
      exact Nat.beq_refl _
    · have h1 := List.all_eq_true.mp hs.1 r h
      have h2 : a.1 < r.1 := by simpa [Nat.blt_eq] using h1
      rw [List.find?_cons_of_neg]
      · exact srt_find hs.2 h
      · intro e
        have := Nat.eq_of_beq_eq_true e
        omega
theorem srt_0 : ((List.range 90)).all (fun m => srt (tab m)) = true := by decide +kernel
theorem srt_1 : ((List.range 181).drop 90).all (fun m => srt (tab m)) = true := by decide +kernel
theorem srt_2 : srt (tab 181) = true := by decide +kernel
theorem row_mem (m : Nat) (hm : m < 182) {r : Row} (h : r ∈ tab m) : rowAt m r.1 = some r := by
  refine srt_find ?_ h
  rcases Nat.lt_or_ge m 90 with g | g
  · exact List.all_eq_true.mp srt_0 m (List.mem_range.mpr g)
  · rcases Nat.lt_or_ge m 181 with g2 | g2
    · refine List.all_eq_true.mp srt_1 m ?_
      rw [List.mem_iff_getElem?]
      exact ⟨m - 90, by rw [List.getElem?_drop, List.getElem?_range (by omega)]; congr 1; omega⟩
    · have e : m = 181 := by omega
      subst e
      exact srt_2
/-! rules of the small machine -/
theorem Ev_succ : ∀ (n d m : Nat) (c : Cf) (q : Rs), Ev n d m c q → Ev (n + 1) d m c q := by
  intro n
  induction n with
  | zero => intro d m c q h; exact h.elim
  | succ n ih =>
    intro d m c q h
    obtain ⟨r, hr, h⟩ := h
    refine ⟨r, hr, ?_⟩
    rcases h with ⟨hk, h1, h2⟩ | ⟨hk, hd1, h1, h2⟩ | h | ⟨hk, d', vs, rest, q1, e1, e2, e3, e4, e5, e6, hE, hc⟩ | h
    · exact Or.inl ⟨hk, h1, ih _ _ _ _ h2⟩
    · exact Or.inr (Or.inl ⟨hk, hd1, h1, ih _ _ _ _ h2⟩)
    · exact Or.inr (Or.inr (Or.inl h))
    · refine Or.inr (Or.inr (Or.inr (Or.inl ⟨hk, d', vs, rest, q1, e1, e2, e3, e4, e5, e6, ih _ _ _ _ hE, ?_⟩)))
      rcases hc with ⟨v, q2, g1, g2, g3⟩ | h | ⟨x, hp, r2, q2, g1, g2, g3, g4, g5, g6, g7, g8⟩
      · exact Or.inl ⟨v, q2, g1, ih _ _ _ _ g2, g3⟩
      · exact Or.inr (Or.inl h)
      · exact Or.inr (Or.inr ⟨x, hp, r2, q2, g1, g2, g3, g4, g5, g6, ih _ _ _ _ g7, g8⟩)
    · exact Or.inr (Or.inr (Or.inr (Or.inr h)))
theorem Ev_le {n k d m : Nat} {c : Cf} {q : Rs} (h : n ≤ k) (hE : Ev n d m c q) : Ev k d m c q := by
  induction k with
  | zero => cases h; exact hE
  | succ k ih =>
    rcases Nat.lt_or_ge n (k + 1) with g | g
    · exact Ev_succ _ _ _ _ _ (ih (by omega))
    · have : n = k + 1 := by omega
      subst this
      exact hE
section
variable {d m pc : Nat} {c : Cf} {q : Rs} {L : Lo} {S : List Value} {σ σ' : St} {r : Row}
theorem Er.step (hr : rowAt m c.1 = some r) (hk : knd r = 0) (h1 : (stp r c).1) (h : Er d m (stp r c).2 q) : Er d m c q := by
  obtain ⟨n, hn⟩ := h
  exact ⟨n + 1, r, hr, Or.inl ⟨hk, h1, hn⟩⟩
/-- an array copied -/
theorem Er.copy (hr : rowAt m c.1 = some r) (hk : knd r = 4) (h1 : (stp r c).1) (h : Er (d + 1) m (stp r c).2 q) : Er (d + 1) m c q := by
  obtain ⟨n, hn⟩ := h
  exact ⟨n + 1, r, hr, Or.inr (Or.inl ⟨hk, Nat.le_add_left 1 d, h1, hn⟩)⟩
def isL (x : Nat) : Prop := 24 ≤ x ∧ x < 46 ∧ ¬ (x = 41 ∨ x = 42)
def xe : Nat → Nat → Cf → Prop × Cf
  | 0, _, c => (True, c)
  | k + 1, m, c => match rowAt m c.1 with
    | some r => match knd r with
      | 0 => ((stp r c).1 ∧ (xe k m (stp r c).2).1, (xe k m (stp r c).2).2)
      | 4 => ((stp r c).1 ∧ (xe k m (stp r c).2).1, (xe k m (stp r c).2).2)
      | _ => (False, c)
    | none => (False, c)
theorem Er.exe : ∀ {k : Nat} {c : Cf}, (xe k m c).1 → Er (d + 1) m (xe k m c).2 q → Er (d + 1) m c q
  | 0, c, _, h => h
  | k + 1, c, h1, h => by
    unfold xe at h1 h
    cases hr : rowAt m c.1 with
    | none => rw [hr] at h1; exact h1.elim
    | some r =>
      rw [hr] at h1 h
      dsimp only at h1 h
      split at h1
      · rename_i hk
        rw [hk] at h
        exact Er.step hr hk h1.1 (Er.exe h1.2 h)
      · rename_i hk
        rw [hk] at h
        exact Er.copy hr hk h1.1 (Er.exe h1.2 h)
      · exact h1.elim
theorem Er.blk {k : Nat} {c2 : Cf} {P : Prop} (h : xe k m c = (P, c2)) (hp : P) (hk : Er (d + 1) m c2 q) : Er (d + 1) m c q := by
  refine Er.exe (k := k) ?_ ?_
  · rw [h]; exact hp
  · rw [h]; exact hk
def k04 (r : Row) : Bool := Nat.beq (knd r) 0 || Nat.beq (knd r) 4
theorem Er.st {P : Prop} {c2 : Cf} (hr : rowAt m pc = some r) (hk : k04 r = true) (h : stp r (pc, L, S, σ) = (P, c2)) (hp : P) (k : Er (d + 1) m c2 q) : Er (d + 1) m (pc, L, S, σ) q := by
  simp only [k04, Bool.or_eq_true] at hk
  rcases hk with hk | hk
  · exact Er.step (c := (pc, L, S, σ)) hr (Nat.eq_of_beq_eq_true hk) (by rw [h]; exact hp) (by rw [h]; exact k)
  · exact Er.copy (c := (pc, L, S, σ)) hr (Nat.eq_of_beq_eq_true hk) (by rw [h]; exact hp) (by rw [h]; exact k)
theorem Er.sT {c2 : Cf} (hr : rowAt m pc = some r) (hk : k04 r = true) (h : stp r (pc, L, S, σ) = (True, c2)) (k : Er (d + 1) m c2 q) : Er (d + 1) m (pc, L, S, σ) q := Er.st hr hk h trivial k
theorem Er.ret {v : Option Value} (hr : rowAt m pc = some r) (hk : knd r = 1) (hv : rts m r S v) : Er d m (pc, L, S, σ) (.inl v, σ, 0) :=
  ⟨1, r, hr, Or.inr (Or.inr (Or.inl ⟨hk, v, hv, rfl⟩))⟩
theorem Er.callk {vs rest : List Value} {v : Option Value} {k : Nat} (hr : rowAt m pc = some r) (hk : knd r = 2) (hn : vs.length = r.2.2.2.2.1) (hs : (rest.map fun v => v.category).sum ≤ 8) (hl : (lcs vs).length ≤ mxl r.2.2.2.1) (hc : rcv r.2.2.2.1 vs)
    (hy : Er d r.2.2.2.1 (0, ent r.2.2.2.1 vs, [], σ) (.inl v, σ', k)) (h : Er (d + 1) m (r.2.1, L, v.toList ++ rest, σ') q) : Er (d + 1) m (pc, L, vs.reverse ++ rest, σ) (q.1, q.2.1, k + q.2.2) := by
  obtain ⟨n1, h1⟩ := hy
  obtain ⟨n2, h2⟩ := h
  refine ⟨max n1 n2 + 1, r, hr, Or.inr (Or.inr (Or.inr (Or.inl ⟨hk, d, vs, rest, (.inl v, σ', k), rfl, rfl, hn, hs, hl, hc, Ev_le (Nat.le_max_left _ _) h1, Or.inl ⟨v, q, rfl, Ev_le (Nat.le_max_right _ _) h2, rfl⟩⟩)))⟩
theorem Er.call {vs rest : List Value} {v : Option Value} (hr : rowAt m pc = some r) (hk : knd r = 2) (hn : vs.length = r.2.2.2.2.1) (hs : (rest.map fun v => v.category).sum ≤ 8) (hl : (lcs vs).length ≤ mxl r.2.2.2.1) (hc : rcv r.2.2.2.1 vs)
    (hy : Er d r.2.2.2.1 (0, ent r.2.2.2.1 vs, [], σ) (.inl v, σ', 0)) (h : Er (d + 1) m (r.2.1, L, v.toList ++ rest, σ') q) : Er (d + 1) m (pc, L, vs.reverse ++ rest, σ) q := by
  have g := Er.callk hr hk hn hs hl hc hy h
  rwa [Nat.zero_add] at g
theorem Er.callx {vs rest : List Value} {x k : Nat} (hr : rowAt m pc = some r) (hk : knd r = 2) (hn : vs.length = r.2.2.2.2.1) (hs : (rest.map fun v => v.category).sum ≤ 8) (hl : (lcs vs).length ≤ mxl r.2.2.2.1) (hc : rcv r.2.2.2.1 vs) (hx : x < 4) (hh : mhh m = []) (hv : r.2.2.2.2.2.2.1 = 0)
    (hy : Er d r.2.2.2.1 (0, ent r.2.2.2.1 vs, [], σ) (.inr x, σ', k)) : Er (d + 1) m (pc, L, vs.reverse ++ rest, σ) (.inr x, σ', k) := by
  obtain ⟨n1, h1⟩ := hy
  exact ⟨n1 + 1, r, hr, Or.inr (Or.inr (Or.inr (Or.inl ⟨hk, d, vs, rest, (.inr x, σ', k), rfl, rfl, hn, hs, hl, hc, h1, Or.inr (Or.inl ⟨x, rfl, hx, hh, hv, rfl⟩)⟩)))⟩
theorem Er.callh {vs rest : List Value} {x k hp : Nat} {r2 : Row} (hr : rowAt m pc = some r) (hk : knd r = 2) (hn : vs.length = r.2.2.2.2.1) (hs : (rest.map fun v => v.category).sum ≤ 8) (hl : (lcs vs).length ≤ mxl r.2.2.2.1) (hc : rcv r.2.2.2.1 vs) (hx : x < 4) (hv : r.2.2.2.2.2.2.1 = 0) (hh : hdl m pc x = some hp) (hr2 : rowAt m hp = some r2) (ha : ast r2 = true)
    (hy : Er d r.2.2.2.1 (0, ent r.2.2.2.1 vs, [], σ) (.inr x, σ', k)) (h : Er (d + 1) m (r2.2.1, (kil L r2.2.2.2.1).set r2.2.2.2.1 none, [], σ') q) : Er (d + 1) m (pc, L, vs.reverse ++ rest, σ) (q.1, q.2.1, k + q.2.2) := by
  obtain ⟨n1, h1⟩ := hy
  obtain ⟨n2, h2⟩ := h
  refine ⟨max n1 n2 + 1, r, hr, Or.inr (Or.inr (Or.inr (Or.inl ⟨hk, d, vs, rest, (.inr x, σ', k), rfl, rfl, hn, hs, hl, hc, Ev_le (Nat.le_max_left _ _) h1, Or.inr (Or.inr ⟨x, hp, r2, q, rfl, hx, hv, hh, hr2, ha, Ev_le (Nat.le_max_right _ _) h2, rfl⟩)⟩)))⟩
theorem Er.thr (hr : rowAt m pc = some r) (hk : knd r = 3) (hh : mhh m = []) : Er (d + 6) m (pc, L, [], σ) (.inr r.2.2.2.1, σ, 1) :=
  ⟨1, r, hr, Or.inr (Or.inr (Or.inr (Or.inr ⟨hk, Nat.le_add_left 6 d, hh, rfl, rfl⟩)))⟩
theorem br_eq {x y : Int32} {a nx : Nat} (kt : x = y → Er d m (a, L, S, σ) q) (kf : ¬ x = y → Er d m (nx, L, S, σ) q) : Er d m (brn .eq x y a nx, L, S, σ) q := by
  by_cases h : x = y
  · rw [show brn .eq x y a nx = a from if_pos h]; exact kt h
  · rw [show brn .eq x y a nx = nx from if_neg h]; exact kf h
theorem br_ne {x y : Int32} {a nx : Nat} (kt : ¬ x = y → Er d m (a, L, S, σ) q) (kf : x = y → Er d m (nx, L, S, σ) q) : Er d m (brn .ne x y a nx, L, S, σ) q := by
  by_cases h : x = y
  · rw [show brn .ne x y a nx = nx from if_pos h]; exact kf h
  · rw [show brn .ne x y a nx = a from if_neg h]; exact kt h
theorem br_lt {x y : Int32} {a nx : Nat} (kt : x < y → Er d m (a, L, S, σ) q) (kf : ¬ x < y → Er d m (nx, L, S, σ) q) : Er d m (brn .lt x y a nx, L, S, σ) q := by
  by_cases h : x < y
  · rw [show brn .lt x y a nx = a from if_pos h]; exact kt h
  · rw [show brn .lt x y a nx = nx from if_neg h]; exact kf h
theorem br_ge {x y : Int32} {a nx : Nat} (kt : y ≤ x → Er d m (a, L, S, σ) q) (kf : ¬ y ≤ x → Er d m (nx, L, S, σ) q) : Er d m (brn .ge x y a nx, L, S, σ) q := by
  by_cases h : y ≤ x
  · rw [show brn .ge x y a nx = a from if_pos h]; exact kt h
  · rw [show brn .ge x y a nx = nx from if_neg h]; exact kf h
theorem br_gt {x y : Int32} {a nx : Nat} (kt : y < x → Er d m (a, L, S, σ) q) (kf : ¬ y < x → Er d m (nx, L, S, σ) q) : Er d m (brn .gt x y a nx, L, S, σ) q := by
  by_cases h : y < x
  · rw [show brn .gt x y a nx = a from if_pos h]; exact kt h
  · rw [show brn .gt x y a nx = nx from if_neg h]; exact kf h
theorem br_le {x y : Int32} {a nx : Nat} (kt : x ≤ y → Er d m (a, L, S, σ) q) (kf : ¬ x ≤ y → Er d m (nx, L, S, σ) q) : Er d m (brn .le x y a nx, L, S, σ) q := by
  by_cases h : x ≤ y
  · rw [show brn .le x y a nx = a from if_pos h]; exact kt h
  · rw [show brn .le x y a nx = nx from if_neg h]; exact kf h
theorem lgc_lt {x y : Int64} : lg_cmp x y < 0 ↔ x < y := by
  unfold lg_cmp
  by_cases h1 : y < x
  · rw [if_pos h1]
    exact ⟨fun h => absurd h (by decide), fun h => absurd (Int64.lt_trans h h1) Int64.lt_irrefl⟩
  · by_cases h2 : x = y
    · rw [if_neg h1, if_pos h2]
      exact ⟨fun h => absurd h (by decide), fun h => absurd h (by rw [h2]; exact Int64.lt_irrefl)⟩
    · rw [if_neg h1, if_neg h2]
      refine ⟨fun _ => ?_, fun _ => by decide⟩
      rcases Int64.lt_or_eq_of_le (Int64.not_lt.mp h1) with h | h
      · exact h
      · exact absurd h h2
theorem lgc_eq {x y : Int64} : lg_cmp x y = 0 ↔ x = y := by
  unfold lg_cmp
  by_cases h1 : y < x
  · rw [if_pos h1]
    exact ⟨fun h => absurd h (by decide), fun h => absurd h1 (by rw [h]; exact Int64.lt_irrefl)⟩
  · by_cases h2 : x = y
    · rw [if_neg h1, if_pos h2]
      exact ⟨fun _ => h2, fun _ => rfl⟩
    · rw [if_neg h1, if_neg h2]
      exact ⟨fun h => absurd h (by decide), fun h => absurd h h2⟩
theorem lgc_gt {x y : Int64} : 0 < lg_cmp x y ↔ y < x := by
  unfold lg_cmp
  by_cases h1 : y < x
  · rw [if_pos h1]
    exact ⟨fun _ => h1, fun _ => by decide⟩
  · by_cases h2 : x = y
    · rw [if_neg h1, if_pos h2]
      exact ⟨fun h => absurd h (by decide), fun h => absurd h h1⟩
    · rw [if_neg h1, if_neg h2]
      exact ⟨fun h => absurd h (by decide), fun h => absurd h h1⟩
theorem bl_eq {x y : Int64} {a nx : Nat} (kt : x = y → Er d m (a, L, S, σ) q) (kf : ¬ x = y → Er d m (nx, L, S, σ) q) : Er d m (brn .eq (lg_cmp x y) 0 a nx, L, S, σ) q := br_eq (fun h => kt (lgc_eq.mp h)) (fun h => kf (fun g => h (lgc_eq.mpr g)))
theorem bl_ne {x y : Int64} {a nx : Nat} (kt : ¬ x = y → Er d m (a, L, S, σ) q) (kf : x = y → Er d m (nx, L, S, σ) q) : Er d m (brn .ne (lg_cmp x y) 0 a nx, L, S, σ) q := br_ne (fun h => kt (fun g => h (lgc_eq.mpr g))) (fun h => kf (lgc_eq.mp h))
theorem bl_lt {x y : Int64} {a nx : Nat} (kt : x < y → Er d m (a, L, S, σ) q) (kf : ¬ x < y → Er d m (nx, L, S, σ) q) : Er d m (brn .lt (lg_cmp x y) 0 a nx, L, S, σ) q := br_lt (fun h => kt (lgc_lt.mp h)) (fun h => kf (fun g => h (lgc_lt.mpr g)))
theorem bl_gt {x y : Int64} {a nx : Nat} (kt : y < x → Er d m (a, L, S, σ) q) (kf : ¬ y < x → Er d m (nx, L, S, σ) q) : Er d m (brn .gt (lg_cmp x y) 0 a nx, L, S, σ) q := br_gt (fun h => kt (lgc_gt.mp h)) (fun h => kf (fun g => h (lgc_gt.mpr g)))
theorem bl_ge {x y : Int64} {a nx : Nat} (kt : ¬ x < y → Er d m (a, L, S, σ) q) (kf : x < y → Er d m (nx, L, S, σ) q) : Er d m (brn .ge (lg_cmp x y) 0 a nx, L, S, σ) q := br_ge (fun h => kt (fun g => absurd (lgc_lt.mpr g) (Int32.not_lt.mpr h))) (fun h => kf (lgc_lt.mp (Int32.not_le.mp h)))
theorem bl_le {x y : Int64} {a nx : Nat} (kt : ¬ y < x → Er d m (a, L, S, σ) q) (kf : y < x → Er d m (nx, L, S, σ) q) : Er d m (brn .le (lg_cmp x y) 0 a nx, L, S, σ) q := br_le (fun h => kt (fun g => absurd (lgc_gt.mpr g) (Int32.not_lt.mpr h))) (fun h => kf (lgc_gt.mp (Int32.not_le.mp h)))
end
