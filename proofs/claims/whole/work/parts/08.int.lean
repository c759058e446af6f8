/-! the small machine: one world of 46 cells, told by numbers -/
abbrev St : Type := (Nat → Nat → Int32) × (Nat → Nat → Int64) × (Nat → Nat → Int32) × (Nat → Nat → Int64) × Nat
def gfi (σ : St) : Nat → Nat → Int32 := σ.1
def gfl (σ : St) : Nat → Nat → Int64 := σ.2.1
def gai (σ : St) : Nat → Nat → Int32 := σ.2.2.1
def gal (σ : St) : Nat → Nat → Int64 := σ.2.2.2.1
def gsl (σ : St) : Nat := σ.2.2.2.2
def sfi (σ : St) (i k : Nat) (v : Int32) : St := (fun a b => if a = i ∧ b = k then v else σ.1 a b, σ.2)
def sfl (σ : St) (i k : Nat) (v : Int64) : St := (σ.1, fun a b => if a = i ∧ b = k then v else σ.2.1 a b, σ.2.2)
def sai (σ : St) (i j : Nat) (v : Int32) : St := (σ.1, σ.2.1, fun a => if a = i then upd (σ.2.2.1 i) j v else σ.2.2.1 a, σ.2.2.2)
def sar (σ : St) (i : Nat) (f : Nat → Int64) : St := (σ.1, σ.2.1, σ.2.2.1, fun a => if a = i then f else σ.2.2.2.1 a, σ.2.2.2.2)
def sal (σ : St) (i j : Nat) (v : Int64) : St := sar σ i (vp_updL (gal σ i) j v)
abbrev Lo : Type := List (Option Value)
abbrev Cf : Type := Nat × Lo × List Value × St
abbrev Rs : Type := (Option Value ⊕ Nat) × St × Nat
def kls (i : Nat) : Nat := if 8 ≤ i then 2 else if 5 ≤ i then 3 else if 3 ≤ i then 1 else [4, 5, 0].getD i 9
def frl : List (List Nat) := [[40, 41, 0, 5, 6, 7, 14, 15, 3, 2], [0, 0, 42, 43, 44], [19, 20, 4], [16, 17, 18], [21, 22, 23]]
def fr (i k : Nat) : Nat := if 8 ≤ i then i + 16 else if 5 ≤ i then 2 * i - 2 + k else (frl.getD i []).getD k 0
def ale (i : Nat) : Nat := if i < 40 then 20 else [960, 60, 60, 960, 1024, 1].getD (i - 40) 0
def avf (σ : St) (i c k : Nat) : Value := if ft c k = 0 then .int (gfi σ i k) else if ft c k = 1 then .long (gfl σ i k) else .ref (fr i k)
/-- the fields of the two constants of Format -/
def efi (i k : Nat) : Int32 := if i = 46 then [52, 2047, -1074].getD k 0 else [23, 255, -149].getD k 0
def efl (i k : Nat) : Int64 := if i = 46 then [9221120237041090560, 9218868437227405312, -9223372036854775808].getD (k - 3) 0 else [2143289344, 2139095040, 2147483648].getD (k - 3) 0
def efv (i k : Nat) : Value := if k < 3 then .int (efi i k) else .long (efl i k)
def kil (L : Lo) (i : Nat) : Lo := match i with
  | 0 => L
  | j + 1 => match L[j]? with
    | some (some (.long _)) => L.set j none
    | some (some (.double _)) => L.set j none
    | _ => L
def st1 (L : Lo) (i : Nat) (v : Value) : Lo := (kil L i).set i (some v)
def st2 (L : Lo) (i : Nat) (v : Value) : Lo := ((kil L i).set i (some v)).set (i + 1) none
def o2i (nx : Nat) (c : Cf) (f : Int32 → Int32 → Value) : Prop × Cf := match c with
  | (_, L, .int y :: .int x :: S, σ) => (True, nx, L, f x y :: S, σ)
  | _ => (False, c)
def o2l (nx : Nat) (c : Cf) (f : Int64 → Int64 → Value) : Prop × Cf := match c with
  | (_, L, .long y :: .long x :: S, σ) => (True, nx, L, f x y :: S, σ)
  | _ => (False, c)
def osl (nx : Nat) (c : Cf) (f : Int64 → Int32 → Value) : Prop × Cf := match c with
  | (_, L, .int y :: .long x :: S, σ) => (True, nx, L, f x y :: S, σ)
  | _ => (False, c)
def o1i (nx : Nat) (c : Cf) (f : Int32 → Value) : Prop × Cf := match c with
  | (_, L, .int x :: S, σ) => (True, nx, L, f x :: S, σ)
  | _ => (False, c)
def o1l (nx : Nat) (c : Cf) (f : Int64 → Value) : Prop × Cf := match c with
  | (_, L, .long x :: S, σ) => (True, nx, L, f x :: S, σ)
  | _ => (False, c)
def odi (nx : Nat) (c : Cf) (f : Int32 → Int32 → Value) : Prop × Cf := match c with
  | (_, L, .int y :: .int x :: S, σ) => (¬ y = 0, nx, L, f x y :: S, σ)
  | _ => (False, c)
def odl (nx : Nat) (c : Cf) (f : Int64 → Int64 → Value) : Prop × Cf := match c with
  | (_, L, .long y :: .long x :: S, σ) => (¬ y = 0, nx, L, f x y :: S, σ)
  | _ => (False, c)
def brn (k : Jvm.ClassFile.Cond) (x y : Int32) (a nx : Nat) : Nat := match k with
  | .eq => if x = y then a else nx
  | .ne => if x = y then nx else a
  | .lt => if x < y then a else nx
  | .ge => if y ≤ x then a else nx
  | .gt => if y < x then a else nx
  | .le => if x ≤ y then a else nx
def tsw (pc : Nat) (d lo hi : Int) (os : Array Int) (x : Int) : Nat := if x < lo ∨ hi < x then ((pc : Int) + d).toNat else ((pc : Int) + os.getD (x - lo).toNat 0).toNat
def stp (r : Row) (c : Cf) : Prop × Cf :=
  match r with
  | (_, nx, i, a, b, _, vi, vl) => match i with
    | .iconst _ | .bipush _ | .sipush _ | .ldc _ => (True, nx, c.2.1, .int vi :: c.2.2.1, c.2.2.2)
    | .lconst _ | .ldc2_w _ => (True, nx, c.2.1, .long vl :: c.2.2.1, c.2.2.2)
    | .iload_n _ | .iload _ => match c.2.1[a]? with
      | some (some (.int x)) => (True, nx, c.2.1, .int x :: c.2.2.1, c.2.2.2)
      | _ => (False, c)
    | .lload_n _ | .lload _ => match c.2.1[a]? with
      | some (some (.long x)) => (True, nx, c.2.1, .long x :: c.2.2.1, c.2.2.2)
      | _ => (False, c)
    | .aload_n _ | .aload _ => match c.2.1[a]? with
      | some (some (.ref x)) => (True, nx, c.2.1, .ref x :: c.2.2.1, c.2.2.2)
      | _ => (False, c)
    | .istore_n _ | .istore _ => match c with
      | (_, L, .int x :: S, σ) => (True, nx, st1 L a (.int x), S, σ)
      | _ => (False, c)
    | .lstore_n _ | .lstore _ => match c with
      | (_, L, .long x :: S, σ) => (True, nx, st2 L a (.long x), S, σ)
      | _ => (False, c)
    | .astore_n _ | .astore _ => match c with
      | (_, L, .ref x :: S, σ) => (True, nx, st1 L a (.ref x), S, σ)
      | _ => (False, c)
    | .iinc _ _ => match c.2.1[a]? with
      | some (some (.int x)) => (True, nx, st1 c.2.1 a (.int (x + vi)), c.2.2.1, c.2.2.2)
      | _ => (False, c)
    | .iadd => o2i nx c (fun x y => .int (x + y))
    | .isub => o2i nx c (fun x y => .int (x - y))
    | .imul => o2i nx c (fun x y => .int (x * y))
    | .iand => o2i nx c (fun x y => .int (x &&& y))
    | .ior => o2i nx c (fun x y => .int (x ||| y))
    | .ishr => o2i nx c (fun x y => .int (x >>> (y &&& 31)))
    | .iushr => o2i nx c (fun x y => .int (x.toUInt32 >>> (y.toUInt32 &&& Int32.toUInt32 31)).toInt32)
    | .idiv => odi nx c (fun x y => .int (x / y))
    | .irem => odi nx c (fun x y => .int (x - x / y * y))
    | .ineg => o1i nx c (fun x => .int (-x))
    | .ladd => o2l nx c (fun x y => .long (x + y))
    | .lsub => o2l nx c (fun x y => .long (x - y))
    | .lmul => o2l nx c (fun x y => .long (x * y))
    | .land => o2l nx c (fun x y => .long (x &&& y))
    | .lor => o2l nx c (fun x y => .long (x ||| y))
    | .lxor => o2l nx c (fun x y => .long (x ^^^ y))
    | .ldiv => odl nx c (fun x y => .long (x / y))
    | .lrem => odl nx c (fun x y => .long (x - x / y * y))
    | .lneg => o1l nx c (fun x => .long (-x))
    | .lcmp => o2l nx c (fun x y => .int (lg_cmp x y))
    | .lshl => osl nx c (fun x y => .long (x <<< (y.toInt64 &&& 63)))
    | .lshr => osl nx c (fun x y => .long (x >>> (y.toInt64 &&& 63)))
    | .lushr => osl nx c (fun x y => .long (x.toUInt64 >>> (y.toInt64.toUInt64 &&& Int64.toUInt64 63)).toInt64)
    | .i2l => o1i nx c (fun x => .long x.toInt64)
    | .i2b => o1i nx c (fun x => .int x.toInt8.toInt32)
    | .i2s => o1i nx c (fun x => .int x.toInt16.toInt32)
    | .i2c => o1i nx c (fun x => .int (x.toUInt32 % 65536).toInt32)
    | .l2i => o1l nx c (fun x => .int x.toInt32)
    | .dup2 => match c with
      | (_, L, .int y :: .ref x :: S, σ) => (True, nx, L, .int y :: .ref x :: .int y :: .ref x :: S, σ)
      | _ => (False, c)
    | .dup => match c with
      | (_, L, .ref x :: S, σ) => (True, nx, L, .ref x :: .ref x :: S, σ)
      | (_, L, .int x :: S, σ) => (True, nx, L, .int x :: .int x :: S, σ)
      | _ => (False, c)
    | .ifCond k _ => match c with
      | (_, L, .int x :: S, σ) => (True, brn k x 0 a nx, L, S, σ)
      | _ => (False, c)
    | .if_icmp k _ => match c with
      | (_, L, .int y :: .int x :: S, σ) => (True, brn k x y a nx, L, S, σ)
      | _ => (False, c)
    | .goto _ => (True, a, c.2.1, c.2.2.1, c.2.2.2)
    | .tableswitch d lo hi os => match c with
      | (pc, L, .int x :: S, σ) => (True, tsw pc d lo hi os x.toInt, L, S, σ)
      | _ => (False, c)
    | .getfield _ => match c with
      | (_, L, .ref x :: S, σ) => if b = 7 then (x = 46 ∨ x = 47, nx, L, efv x a :: S, σ) else (x < 24 ∧ kls x = b, nx, L, avf σ x b a :: S, σ)
      | _ => (False, c)
    | .putfield _ => match c with
      | (_, L, .int v :: .ref x :: S, σ) => (x < 24 ∧ kls x = b ∧ ft b a = 0, nx, L, S, sfi σ x a v)
      | (_, L, .long v :: .ref x :: S, σ) => (x < 24 ∧ kls x = b ∧ ft b a = 1, nx, L, S, sfl σ x a v)
      | _ => (False, c)
    | .getstatic _ => (True, nx, c.2.1, .ref a :: c.2.2.1, c.2.2.2)
    | .iaload => match c with
      | (_, L, .int j :: .ref x :: S, σ) => if x = 48 then (vp_in j (gsl σ), nx, L, .int (gai σ 48 j.toNatClampNeg) :: S, σ) else ((x = 41 ∨ x = 42) ∧ vp_in j (ale x), nx, L, .int (gai σ x j.toNatClampNeg) :: S, σ)
      | _ => (False, c)
    | .laload => match c with
      | (_, L, .int j :: .ref x :: S, σ) => ((24 ≤ x ∧ x < 46 ∧ ¬ (x = 41 ∨ x = 42)) ∧ vp_in j (ale x), nx, L, .long (gal σ x j.toNatClampNeg) :: S, σ)
      | _ => (False, c)
    | .iastore => match c with
      | (_, L, .int v :: .int j :: .ref x :: S, σ) => ((x = 41 ∨ x = 42) ∧ vp_in j (ale x), nx, L, S, sai σ x j.toNatClampNeg v)
      | _ => (False, c)
    | .lastore => match c with
      | (_, L, .long v :: .int j :: .ref x :: S, σ) => ((24 ≤ x ∧ x < 46 ∧ ¬ (x = 41 ∨ x = 42)) ∧ vp_in j (ale x), nx, L, S, sal σ x j.toNatClampNeg v)
      | _ => (False, c)
    | .arraylength => match c with
      | (_, L, .ref x :: S, σ) => if x = 48 then (True, nx, L, .int (Int32.ofNat (gsl σ)) :: S, σ) else (24 ≤ x ∧ x < 46, nx, L, .int (Int32.ofNat (ale x)) :: S, σ)
      | _ => (False, c)
    | .invokestatic _ => if a = 990 then match c with
        | (_, L, .int y :: .int x :: S, σ) => ((S.map fun v => v.category).sum ≤ 8, nx, L, .int (if y < x then y else x) :: S, σ)
        | _ => (False, c)
      else if a = 991 then match c with
        | (_, L, .int y :: .int x :: S, σ) => ((S.map fun v => v.category).sum ≤ 8, nx, L, .int (if x < y then y else x) :: S, σ)
        | _ => (False, c)
      else if a = 992 then match c with
        | (_, L, .int x :: S, σ) => ((S.map fun v => v.category).sum ≤ 8, nx, L, .int (if 0 ≤ x then x else 0 - x) :: S, σ)
        | _ => (False, c)
      else if a = 993 then match c with
        | (_, L, .long y :: .long x :: S, σ) => ((S.map fun v => v.category).sum ≤ 8, nx, L, .long (if y < x then y else x) :: S, σ)
        | _ => (False, c)
      else if a = 994 then match c with
        | (_, L, .long y :: .long x :: S, σ) => ((S.map fun v => v.category).sum ≤ 8, nx, L, .long (if y < x then x else y) :: S, σ)
        | _ => (False, c)
      else if a = 995 then match c with
        | (_, L, .long x :: S, σ) => ((S.map fun v => v.category).sum ≤ 8, nx, L, .long (if 0 < x then x else -x) :: S, σ)
        | _ => (False, c)
      else match c with
        | (_, L, .int n :: .int dp :: .ref y :: .int sp :: .ref x :: S, σ) => ((24 ≤ x ∧ x < 40) ∧ (24 ≤ y ∧ y < 40) ∧ sp = 0 ∧ dp = 0 ∧ n = 20 ∧ (S.map fun v => v.category).sum ≤ 8, nx, L, S, sar σ y (va_cpy (gal σ x) (gal σ y) 0 0 20))
        | _ => (False, c)
    | _ => (False, c)
def knd (r : Row) : Nat := match r.2.2.1 with
  | .ireturn | .lreturn | .return_ => 1
  | .invokevirtual _ => 2
  | .invokestatic _ => if r.2.2.2.1 < 900 then 2 else 4
  | .new _ => 3
  | _ => 0
def lcs (vs : List Value) : Lo := vs.flatMap (fun v => if v.category = 2 then [some v, none] else [some v])
def ent (m : Nat) (vs : List Value) : Lo := lcs vs ++ List.replicate (mxl m - (lcs vs).length) none
def rts (m : Nat) (r : Row) (S : List Value) (v : Option Value) : Prop := match r.2.2.1 with
  | .return_ => mrt m = none ∧ S = [] ∧ v = none
  | .ireturn => ∃ x ty, S = [.int x] ∧ mrt m = some ty ∧ narrow ty (.int x) = .int x ∧ v = some (.int x)
  | .lreturn => ∃ x, S = [.long x] ∧ mrt m = some .long ∧ v = some (.long x)
  | _ => False
def rcv (y : Nat) (vs : List Value) : Prop := mkd y = 0 → ∃ i us, vs = .ref i :: us ∧ (if mci y = 7 then i = 46 ∨ i = 47 else i < 24 ∧ kls i = mci y)
def hxs : List (Nat × Nat) := [(13, 3), (19, 2), (28, 0), (30, 1)]
def hx (k : Nat) : Nat := (hxs.lookup k).getD 9
def hdl (m pc x : Nat) : Option Nat := ((mhh m).find? (fun q => decide (q.1 ≤ pc) && decide (pc < q.2.1) && decide (hx q.2.2.2 = x))).map (fun q => q.2.2.1)
def ast (r : Row) : Bool := match r.2.2.1 with
  | .astore_n _ | .astore _ => true
  | _ => false
/-- frame m runs from c to its end q, in n steps, d frames below it -/
def Ev : Nat → Nat → Nat → Cf → Rs → Prop
  | 0, _, _, _, _ => False
  | n + 1, d, m, c, q => ∃ r : Row, rowAt m c.1 = some r ∧
      ((knd r = 0 ∧ (stp r c).1 ∧ Ev n d m (stp r c).2 q) ∨
       (knd r = 4 ∧ 1 ≤ d ∧ (stp r c).1 ∧ Ev n d m (stp r c).2 q) ∨
       (knd r = 1 ∧ ∃ v, rts m r c.2.2.1 v ∧ q = (.inl v, c.2.2.2, 0)) ∨
       (knd r = 2 ∧ ∃ (d' : Nat) (vs rest : List Value) (q1 : Rs), d = d' + 1 ∧ c.2.2.1 = vs.reverse ++ rest ∧ vs.length = r.2.2.2.2.1 ∧ (rest.map fun v => v.category).sum ≤ 8 ∧ (lcs vs).length ≤ mxl r.2.2.2.1 ∧ rcv r.2.2.2.1 vs ∧ Ev n d' r.2.2.2.1 (0, ent r.2.2.2.1 vs, [], c.2.2.2) q1 ∧
          ((∃ (v : Option Value) (q2 : Rs), q1.1 = .inl v ∧ Ev n d m (r.2.1, c.2.1, v.toList ++ rest, q1.2.1) q2 ∧ q = (q2.1, q2.2.1, q1.2.2 + q2.2.2)) ∨
           (∃ x : Nat, q1.1 = .inr x ∧ x < 4 ∧ mhh m = [] ∧ r.2.2.2.2.2.2.1 = 0 ∧ q = q1) ∨
           (∃ (x hp : Nat) (r2 : Row) (q2 : Rs), q1.1 = .inr x ∧ x < 4 ∧ r.2.2.2.2.2.2.1 = 0 ∧ hdl m c.1 x = some hp ∧ rowAt m hp = some r2 ∧ ast r2 = true ∧ Ev n d m (r2.2.1, (kil c.2.1 r2.2.2.2.1).set r2.2.2.2.1 none, [], q1.2.1) q2 ∧ q = (q2.1, q2.2.1, q1.2.2 + q2.2.2)))) ∨
       (knd r = 3 ∧ 6 ≤ d ∧ mhh m = [] ∧ c.2.2.1 = [] ∧ q = (.inr r.2.2.2.1, c.2.2.2, 1)))
/-- frame m runs from c to its end q -/
def Er (d m : Nat) (c : Cf) (q : Rs) : Prop := ∃ n, Ev n d m c q
