/-! what a row of a table must be, as a test -/
def mi0 : MI := ("", ⟨"", "", ""⟩, ⟨#[]⟩, 0, none, 9, 9, 0, (0, 0, 0, 0), [])
def mi (m : Nat) : MI := mis.getD m mi0
def mow (m : Nat) : String := (mi m).1
def mnm (m : Nat) : MethodName := (mi m).2.1
def mby (m : Nat) : ByteArray := (mi m).2.2.1
def mxl (m : Nat) : Nat := (mi m).2.2.2.1
def mrt (m : Nat) : Option FieldType := (mi m).2.2.2.2.1
def mkd (m : Nat) : Nat := (mi m).2.2.2.2.2.1
def mci (m : Nat) : Nat := (mi m).2.2.2.2.2.2.1
def mna (m : Nat) : Nat := (mi m).2.2.2.2.2.2.2.1
def mps (m : Nat) : Nat × Nat × Nat × Nat := (mi m).2.2.2.2.2.2.2.2.1
def mhh (m : Nat) : List (Nat × Nat × Nat × Nat) := (mi m).2.2.2.2.2.2.2.2.2
def tab (m : Nat) : List Row := tabs.getD m []
def rowAt (m pc : Nat) : Option Row := (tab m).find? (fun r => Nat.beq r.1 pc)
def fT (c : Nat) : u_T := match c with
  | 0 => T0
  | 1 => T1
  | 2 => T2
  | 3 => T3
  | 4 => T4
  | 5 => T5
  | _ => T7
def fK (c : Nat) : String := match c with
  | 0 => K0
  | 1 => K1
  | 2 => K2
  | 3 => K3
  | 4 => K4
  | 5 => K5
  | _ => K7
/-- how many fields -/
def nf (c : Nat) : Nat := match c with
  | 0 => 7
  | 1 => 3
  | 2 => 2
  | 3 => 3
  | 4 => 10
  | 5 => 10
  | _ => 6
/-- a field's kind: 0 int, 1 long, 2 a reference -/
def ft (c k : Nat) : Nat := match c with
  | 0 => [2, 2, 2, 1, 1, 1, 1].getD k 0
  | 1 => 2
  | 2 => [2, 0].getD k 0
  | 3 => [2, 2, 0].getD k 0
  | 4 => [2, 2, 0, 2, 2, 2, 2, 2, 2, 2].getD k 0
  | 5 => [0, 0, 2, 2, 2, 0, 0, 0, 0, 0].getD k 0
  | _ => [0, 0, 0, 1, 1, 1].getD k 0
def tis (w : Nat) (c : Cond) : Bool := decide (lw_tbl[w]? = some c)
def exn (a : Nat) : String := match a with
  | 0 => "java/lang/IndexOutOfBoundsException"
  | 1 => "java/lang/IllegalArgumentException"
  | 2 => "java/lang/ArithmeticException"
  | _ => "java/lang/IllegalStateException"
def thr0 : String × String × Nat × Nat × String × Nat × Nat × Nat := ("", "", 0, 0, "", 0, 0, 0)
def thr (b : Nat) : String × String × Nat × Nat × String × Nat × Nat × Nat := thrs.getD b thr0
def iln : Instr → Nat
  | .bipush _ | .ldc _ | .iload _ | .lload _ | .aload _ | .istore _ | .lstore _ | .astore _ => 2
  | .sipush _ | .ldc2_w _ | .iinc _ _ | .ifCond _ _ | .if_icmp _ _ | .goto _ | .getfield _ | .putfield _ | .getstatic _ | .invokevirtual _ | .invokestatic _ | .new _ => 3
  | _ => 1
def isw : Instr → Bool
  | .tableswitch _ _ _ _ => true
  | _ => false
def tok (pc : Nat) (d : Int) (os : Array Int) : Bool := decide (0 ≤ (pc : Int) + d) && os.all (fun o => decide (0 ≤ (pc : Int) + o))
def rok (m : Nat) (r : Row) : Bool :=
  match r with
  | (pc, nx, i, a, b, w, vi, vl) =>
    (decide (decode (mby m) pc = .ok (i, nx - pc)) && decide (pc < nx) && (isw i || decide (nx = pc + iln i))) && match i with
    | .tableswitch d lo hi os => tok pc d os && decide ((hi - lo).toNat + 1 = os.size) && decide (lo ≤ hi)
    | .getfield k => decide (a < nf b) && (tis w (.fieldLink (mow m) k (fT b a).1 (fT b a).2.1 (fT b a).2.2.1) || tis w (.fieldLinkNest (mow m) k (fT b a).1 (fT b a).2.1 (fT b a).2.2.1 "NumberModels")) && (decide (b < 6) || decide (b = 7))
    | .putfield k => decide (a < nf b) && (tis w (.fieldLink (mow m) k (fT b a).1 (fT b a).2.1 (fT b a).2.2.1) || tis w (.fieldLinkNest (mow m) k (fT b a).1 (fT b a).2.1 (fT b a).2.2.1 "NumberModels")) && decide (b < 6) && decide ((fT b a).2.2.2 = false) && decide (ft b a < 2)
    | .getstatic k => (decide (a = 46) || decide (a = 47)) && tis w (.fieldLink (mow m) k "NumberModels$Format" (if a = 46 then "DOUBLE" else "FLOAT") "LNumberModels$Format;")
    | .ldc k => tis w (.constant (mow m) k vi)
    | .ldc2_w k => tis w (.constantLong (mow m) k vl)
    | .iconst n => decide (Int32.ofInt n = vi)
    | .bipush n => decide ((Int8.ofInt n).toInt32 = vi)
    | .sipush n => decide ((Int16.ofInt n).toInt32 = vi)
    | .lconst n => decide (Int64.ofNat (n : Nat) = vl)
    | .iinc k n => decide (k = a) && decide (Int32.ofInt n = vi) && decide (nx = pc + 3)
    | .iload_n k | .lload_n k | .aload_n k | .istore_n k | .astore_n k => decide ((k : Nat) = a) && decide (a < mxl m)
    | .lstore_n k => decide ((k : Nat) = a) && decide (a + 1 < mxl m)
    | .iload k | .lload k | .aload k | .istore k | .astore k => decide (k = a) && decide (a < mxl m)
    | .lstore k => decide (k = a) && decide (a + 1 < mxl m)
    | .ifCond _ off | .if_icmp _ off | .goto off => decide ((pc : Int) + off = (a : Int)) && decide (nx = pc + 3)
    | .invokevirtual k => decide (mkd a = 0) && decide (b = mna a) && decide (0 < b) && decide (a < 181) && decide (nx = pc + 3) && (tis w (.methodLink (mow m) k (mnm a)) || (tis w (.methodLinkNest (mow m) k (mnm a) "NumberModels") && decide (vi = 1)))
    | .invokestatic k => decide (nx = pc + 3) && if a < 900 then
        (decide (mkd a = 1) || decide (mkd a = 2)) && decide (b = mna a) && decide (a < 181) && (tis w (.methodLink (mow m) k (mnm a)) || (tis w (.methodLinkNest (mow m) k (mnm a) "NumberModels") && decide (mkd a = 1) && decide (vi = 1)))
        else if a = 990 then tis w (.methodLink (mow m) k Lib.Math.min.name) else if a = 991 then tis w (.methodLink (mow m) k Lib.Math.max.name) else if a = 992 then tis w (.methodLink (mow m) k Lib.Math.abs.name)
        else if a = 993 then tis w (.methodLink (mow m) k Lib.MathLoose.min_long.x) else if a = 994 then tis w (.methodLink (mow m) k Lib.MathLoose.max_long.x) else if a = 995 then tis w (.methodLink (mow m) k Lib.MathLoose.abs_long.x)
        else tis w (.methodLink (mow m) k arraycopyName)
    | .new k => match thr b with
      | (own, c, ik, is, tx, ic, w1, w2) => decide (own = mow m) && decide (c = exn a) && decide (ik = k) && tis w1 (.classLink own ik c) && tis w2 (.stringRef own is tx) && decide (nx = pc + 3) &&
          decide (decode (mby m) (pc + 3) = .ok (.dup, 1)) && decide (decode (mby m) (pc + 4) = .ok (.ldc is, 2)) && decide (decode (mby m) (pc + 6) = .ok (.invokespecial ic, 3)) && decide (decode (mby m) (pc + 9) = .ok (.athrow, 1)) && decide (b < 13) && decide (a < 4)
    | _ => true
