theorem okt_mem {a b : Nat} (h : ((List.range b).drop a).all (fun m => (tab m).all (rok m)) = true) {m : Nat} (h1 : a ≤ m) (h2 : m < b) : (tab m).all (rok m) = true := by
  refine List.all_eq_true.mp h m ?_
  rw [List.mem_iff_getElem?]
  exact ⟨m - a, by rw [List.getElem?_drop, List.getElem?_range (by omega)]; congr 1; omega⟩
theorem okt {m : Nat} (hm : m < 182) : (tab m).all (rok m) = true := by
  rcases Nat.lt_or_ge m 40 with h0 | h0
  · exact okt_mem okt_0 (Nat.zero_le _) h0
  rcases Nat.lt_or_ge m 80 with h1 | h1
  · exact okt_mem okt_1 h0 h1
  rcases Nat.lt_or_ge m 110 with h2 | h2
  · exact okt_mem okt_2 h1 h2
  rcases Nat.lt_or_ge m 127 with h3 | h3
  · exact okt_mem okt_3 h2 h3
  rcases Nat.lt_or_ge m 150 with h4 | h4
  · exact okt_mem okt_4 h3 h4
  rcases Nat.lt_or_ge m 181 with h5 | h5
  · exact okt_mem okt_5 h4 h5
  have e : m = 181 := by omega
  subst e
  show (tb181).all (rok 181) = true
  simp only [tb181, List.all_append, okl_0, okl_1, okl_2, okl_3, okl_4, okl_5, okl_6, okl_7, okl_8, okl_9, okl_10, okl_11, okl_12, okl_13, okl_14, Bool.and_self]
theorem tab_ge {m : Nat} (hm : ¬ m < 182) : tab m = [] := by
  have h : tabs.length = 182 := by decide +kernel
  unfold tab
  rw [List.getD_eq_getElem?_getD, List.getElem?_eq_none (by omega)]
  rfl
theorem row_ok {m pc : Nat} {r : Row} (h : rowAt m pc = some r) : m < 182 ∧ r.1 = pc ∧ rok m r = true := by
  by_cases hm : m < 182
  · unfold rowAt at h
    have h1 := List.mem_of_find?_eq_some h
    have h2 := List.find?_some h
    exact ⟨hm, Nat.eq_of_beq_eq_true h2, List.all_eq_true.mp (okt hm) r h1⟩
  · unfold rowAt at h
    rw [tab_ge hm] at h
    cases h
