/-! a run of the small machine is one of the machine -/
def wsm (m : Nat) : List Cond := cwd m :: gtb
def mok (m : Nat) : Bool :=
  decide (mow m = (mnm m).cls) && Jvm.plainName (mnm m).cls && decide ((mnm m).cls ≠ "java/lang/invoke/MethodHandle") && decide ((mnm m).cls ≠ "java/lang/invoke/VarHandle") &&
  decide (mxl m ≤ 18) && tis (mps m).2.2.2 (.initialized (mnm m).cls) &&
  (if mkd m = 0 then decide ((parseMethodDescriptor (mnm m).desc).map (fun d => d.parameters.length + 1) = some (mna m)) && tis (mps m).2.1 (.instanceMethod (mnm m)) && tis (mps m).2.2.1 (.selects (mnm m).cls (mnm m) (mnm m)) && decide (mhh m = []) && decide (fK (mci m) = (mnm m).cls) && (decide (mci m < 6) || decide (mci m = 7))
   else decide ((parseMethodDescriptor (mnm m).desc).map (fun d => d.parameters.length) = some (mna m)) && tis (mps m).2.1 (.static (mnm m)) && (decide (mkd m = 2) || decide (mhh m = [])))
theorem mok_all : ∀ m, m < 181 → mok m = true := by
  have h : (List.range 181).all mok = true := by decide +kernel
  exact fun m hm => List.all_eq_true.mp h m (List.mem_range.mpr hm)
theorem good_code {y : MethodName} {b : ByteArray} {n : Nat} {r : Option FieldType} : goodWord (.code y b n r) = true := rfl
theorem good_cwd (m : Nat) : goodWord (cwd m) = true := by
  unfold cwd
  split <;> rfl
theorem wsm_in {m : Nat} (hm : m < 181) : ∀ w ∈ wsm m, w ∈ gtb := by
  intro w hw
  rcases List.mem_cons.mp hw with rfl | h
  · exact gtb_of (cwd_in m hm) (good_cwd m)
  · exact h
theorem pay9 {s : State} {args : Array Value} (hts : ∀ w ∈ gtb, w.before args s = true) {ws : List Cond} (h : ∀ w ∈ ws, w ∈ gtb) : ∀ w ∈ ws, ∀ (a' : Array Value) (U : State), s.WarmedH U.vm → w.before a' U = true :=
  fun w hw a' U hW => word_at hW (good_of_word (List.mem_filter.mp (h w hw)).2) (hts w (h w hw))
def rmd (d k : Nat) : Room := { frames := d, cells := k, slots := 6 * k, locals := 37 * d }
def Snd (l : Launch) (D : va_G) (ad : Nat → Nat) (cI cJ : ClassId) (N : Nat) (xs : Nat → Int32) (n : Nat) : Prop :=
  ∀ (d m : Nat) (c : Cf) (q : Rs), Ev n d m c q → ∀ (p : Program) (e : Env) (R : Room) (s : State) (mm : MethodId) (args : Array Value) (below : List Frame) (meth : Method) (cd : Code) (H : Heap) (locs : List Loc) (cells slots : Nat) (ls : Array Slot) (mc ms : Nat),
    Cx p l s mm args meth cd m → d ≤ R.frames → 37 * d ≤ R.locals → cells + q.2.2 ≤ mc → slots + 6 * q.2.2 ≤ ms → mc ≤ R.cells → ms ≤ R.slots → va_K D cls9 (tys9 cI cJ) s → Ks ad N xs (Aw ad s.heap.size) s s.heap →
    Wd D ad cI cJ N xs (Aw ad s.heap.size) c.2.2.2 H → va_S (Aw ad s.heap.size) s.heap H locs → LH ad ls (mxl m) c.2.1 →
    W p l e R s mm args below meth cd H locs cells slots (vx_MQ below (QC D ad cI cJ N xs s.heap.size q) (XC D ad cI cJ N xs s.heap.size q) args s mc ms (Aw ad s.heap.size)) (F0 mm c.1 ls (c.2.2.1.map (rl ad)))
section SND
variable {p : Program} {l : Launch} {e : Env} {R : Room} {s : State} {mm : MethodId} {args : Array Value} {below : List Frame} {meth : Method} {cd : Code} {H : Heap} {locs : List Loc} {cells slots : Nat} {Q : State → Prop}
variable {D : va_G} {ad : Nat → Nat} {cI cJ : ClassId} {N : Nat} {xs : Nat → Int32} {A : Nat → Prop} {m : Nat}
set_option maxHeartbeats 1000000 in
theorem ct_of (hst : l.stackTraces = false) {n : Nat} (hS : Snd l D ad cI cJ N xs n) {d : Nat} {vs : List Value} {σ : St} {q : Rs} {sz : Nat} (hm : m < 181) (hlen : (lcs vs).length ≤ mxl m) (hE : Ev n d m (0, ent m vs, [], σ) q) :
    vx_Met l (mnm m) (wsm m) (rmd d q.2.2) (PC D ad cI cJ N xs sz vs σ) (QC D ad cI cJ N xs sz q) (XC D ad cI cJ N xs sz q) q.2.2 (6 * q.2.2) (Aw ad sz) := by
  have hk := mok_all m hm
  simp only [mok, Bool.and_eq_true, decide_eq_true_eq] at hk
  obtain ⟨⟨⟨⟨⟨⟨ho, hpl⟩, -⟩, -⟩, -⟩, -⟩, hk2⟩ := hk
  have body : ∀ p e s mm args below meth c s₁, BodyLoose p l (mnm m) (headSpec (wsm m) (rmd d q.2.2)) (mby m) (mxl m) (mrt m) e s mm args below meth c s₁ → c.maxLocals = mxl m → c.exceptionTable.toList = tableOf (mhh m) → PC D ad cI cJ N xs sz vs σ args s →
      W p l e (rmd d q.2.2) s mm args below meth c s.heap [] 0 0 (vx_MQ below (QC D ad cI cJ N xs sz q) (XC D ad cI cJ N xs sz q) args s q.2.2 (6 * q.2.2) (Aw ad sz)) (entryFrame mm args (mxl m)) := by
    intro p e s mm args below meth c s₁ B hml ht hv
    obtain ⟨rfl, hsz, hK, hKs, hWd⟩ := hv
    subst hsz
    have hts := atoms_spec (ws := wsm m) B.pre
    have hown : s.vm.findClass (mow m) = some mm.cls := by rw [ho]; exact findClass_of_methodNamed B.named
    rw [lg_entry_eq]
    exact hS d m (0, ent m vs, [], σ) q hE p e (rmd d q.2.2) s mm _ below meth c s.heap [] 0 0 _ q.2.2 (6 * q.2.2) ⟨B.exec, B.bytes, B.returns, hml, hown, fun w hw => hts w (List.mem_cons_of_mem _ hw), B.notSynchronized, ht, hst⟩ (Nat.le_refl _) (Nat.le_refl _) (by omega) (by omega) (Nat.le_refl _) (Nat.le_refl _) hK hKs hWd va_S.rf (ent_LH hlen)
  by_cases h2 : mkd m = 2
  · refine vx_ofWH (cc := mby m) (maxL := mxl m) (ret := mrt m) (hh := mhh m) (ws' := gtb) hpl (by unfold wsm cwd; rw [if_pos h2]) ?_
    intro p e s mm args below meth c s₁ B hml hv
    refine body p e s mm args below meth c s₁ B hml ?_ hv
    have hts := atoms_spec (ws := wsm m) B.pre
    have hc := hts (cwd m) List.mem_cons_self
    unfold cwd at hc
    rw [if_pos h2] at hc
    exact vx_table (x := mnm m) B hc
  · refine vx_ofW (cc := mby m) (maxL := mxl m) (ret := mrt m) (ws' := gtb) hpl (by unfold wsm cwd; rw [if_neg h2]) ?_
    intro p e s mm args below meth c s₁ B hml ht hv
    refine body p e s mm args below meth c s₁ B hml ?_ hv
    have hh : mhh m = [] := by
      by_cases h0 : mkd m = 0
      · rw [if_pos h0] at hk2
        simp only [Bool.and_eq_true, decide_eq_true_eq] at hk2
        exact hk2.1.1.2
      · rw [if_neg h0] at hk2
        simp only [Bool.and_eq_true, Bool.or_eq_true, decide_eq_true_eq] at hk2
        exact hk2.2.resolve_left h2
    rw [hh]
    exact List.eq_nil_iff_forall_not_mem.mpr ht
theorem met_of {y : MethodName} {ws : List Cond} {rm : Room} {Pc : Array Value → State → Prop} {Qc : Array Value → State → Outcome → State → Prop} {X : String → State → State → Prop} {mc ms : Nat} {free : Addr → Prop} (hM : vx_Met l y ws rm Pc Qc X mc ms free) (h : ∀ E st t, ¬ X E st t) : Met l y ws rm Pc Qc mc ms free := by
  intro p e h1 h2 h3 s m args below h4 h5 h6 h7
  obtain ⟨n, o, g1, g2, g3, g4⟩ := hM p e h1 h2 h3 s m args below h4 h5 h6 h7
  refine ⟨n, o, g1, g2, g3, ?_⟩
  rcases g4 with g | ⟨q, -, E, ce, L, hx, -⟩
  · exact g
  · exact absurd hx (h _ _ _)
theorem Wd.weak {A1 : Nat → Prop} {σ : St} (h : Wd D ad cI cJ N xs A1 σ H) (hA : ∀ z, A1 z → A z) : Wd D ad cI cJ N xs A σ H := ⟨h.1, h.2.1.weaken (fun _ _ _ h9 => hA _ h9), h.2.2⟩
theorem run_go {mc ms pc : Nat} {ls : Array Slot} {st0 rest : List Value} {q1 : Rs} {a9 : Array Value}
    (hr : vx_Run p l e R s mm args below meth cd H locs cells slots mc ms (F0 mm pc ls st0) rest (QC D ad cI cJ N xs H.size q1 a9) (XC D ad cI cJ N xs H.size q1) (Aw ad H.size)) (hS : va_S A s.heap H locs) (hA : ∀ z, Aw ad H.size z → A z)
    (kx : ∀ (x : Nat) (H1 : Heap) (locs1 : List Loc) (q9 : Addr) (ce : Cell), q1.1 = .inr x → x < 4 → Wd D ad cI cJ N xs A q1.2.1 H1 → va_S A s.heap H1 locs1 → H1[q9]? = some ce → ce.vm = .none → s.vm.findClass (exn x) = some ce.cls → vx_W p l e R s mm args below meth cd H1 locs1 (cells + mc) (slots + ms) Q (F0 mm pc ls rest) q9)
    (kk : ∀ (v : Option Value) (H1 : Heap) (locs1 : List Loc), q1.1 = .inl v → Wd D ad cI cJ N xs A q1.2.1 H1 → va_S A s.heap H1 locs1 → W p l e R s mm args below meth cd H1 locs1 (cells + mc) (slots + ms) Q (F0 mm (pc + 3) ls ((v.map (rl ad)).toList ++ rest))) :
    W p l e R s mm args below meth cd H locs cells slots Q (F0 mm pc ls st0) := by
  intro T hT X
  rcases hr T hT X with ⟨v, st₀, t, T', L, h0, X', hL, e1, e2, ⟨⟨v', hv, ho⟩, hW, hF⟩, st⟩ | ⟨q, st₀, t, T', L, E, ce, h0, X', hL, e1, e2, ⟨⟨x, hv, hx4, hE⟩, hW, hF⟩, hce, hcv, hcl, st⟩
  · cases ho
    obtain ⟨k1, k2, k3⟩ := vx_keep h0 e1 hS (fun z _ h9 => hA z h9) hA hL hF
    rw [← e1] at hW
    obtain ⟨t2, a1, b1⟩ := kk v' T'.heap (locs ++ L) hv (hW.weak hA) k3 T' rfl X'
    exact ⟨t2, st t2 a1, b1⟩
  · subst hE
    obtain ⟨k1, k2, k3⟩ := vx_keep h0 e1 hS (fun z _ h9 => hA z h9) hA hL hF
    rw [← e1] at hW
    obtain ⟨t2, a1, b1⟩ := kx x T'.heap (locs ++ L) q ce hv hx4 (hW.weak hA) k3 (by rw [e1]; exact hce) hcv hcl T' rfl X'
    exact ⟨t2, st.trans a1, b1⟩
def nms : List String := ["java/lang/RuntimeException", "java/lang/Exception"]
def thk (b : Nat) : Bool := match thr b with
  | (own, c, ik, _, _, ic, _, _) => Bundle.fit c && decide (Cond.initialized c ∈ gtb) && (vx_atS own ic c nms).all (fun w => decide (w ∈ lw_tbl) && (goodWord w || isNW w) && vx_ot w) && vx_ot (.classLink own ik c) && vx_ot (.initialized c)
theorem thk_all : ∀ b, b < 13 → thk b = true := by
  have h : (List.range 13).all thk = true := by decide +kernel
  exact fun b hb => List.all_eq_true.mp h b (List.mem_range.mpr hb)
end SND
