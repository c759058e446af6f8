/-! tables of the program, by tools/gentab.py -/
abbrev Row : Type := Nat × Nat × Instr × Nat × Nat × Nat × Int32 × Int64
abbrev r0 (pc nx : Nat) (i : Instr) : Row := (pc, nx, i, 0, 0, 0, 0, 0)
abbrev ra (pc nx : Nat) (i : Instr) (a b w : Nat) : Row := (pc, nx, i, a, b, w, 0, 0)
def K0 : String := "NumberModels$CommonDivisor"
def T0 : u_T := fun k => match k with
  | 0 => ("NumberModels$CommonDivisor", "found", "LNumberModels$Natural;", true)
  | 1 => ("NumberModels$CommonDivisor", "next", "LNumberModels$Natural;", true)
  | 2 => ("NumberModels$CommonDivisor", "division", "LNumberModels$Division;", true)
  | 3 => ("NumberModels$CommonDivisor", "a", "J", false)
  | 4 => ("NumberModels$CommonDivisor", "b", "J", false)
  | 5 => ("NumberModels$CommonDivisor", "c", "J", false)
  | _ => ("NumberModels$CommonDivisor", "d", "J", false)
def K1 : String := "NumberModels$Division"
def T1 : u_T := fun k => match k with
  | 0 => ("NumberModels$Division", "quotient", "LNumberModels$Natural;", true)
  | 1 => ("NumberModels$Division", "remainder", "LNumberModels$Natural;", true)
  | _ => ("NumberModels$Division", "divisor", "LNumberModels$Natural;", true)
def K2 : String := "NumberModels$Natural"
def T2 : u_T := fun k => match k with
  | 0 => ("NumberModels$Natural", "words", "[J", true)
  | _ => ("NumberModels$Natural", "size", "I", false)
def K3 : String := "NumberModels$Ratio"
def T3 : u_T := fun k => match k with
  | 0 => ("NumberModels$Ratio", "top", "LNumberModels$Natural;", true)
  | 1 => ("NumberModels$Ratio", "bottom", "LNumberModels$Natural;", true)
  | _ => ("NumberModels$Ratio", "side", "I", false)
def K4 : String := "NumberModels"
def T4 : u_T := fun k => match k with
  | 0 => ("NumberModels", "words", "[J", true)
  | 1 => ("NumberModels", "sides", "[I", true)
  | 2 => ("NumberModels", "held", "I", false)
  | 3 => ("NumberModels", "first", "LNumberModels$Ratio;", true)
  | 4 => ("NumberModels", "second", "LNumberModels$Ratio;", true)
  | 5 => ("NumberModels", "made", "LNumberModels$Ratio;", true)
  | 6 => ("NumberModels", "left", "LNumberModels$Natural;", true)
  | 7 => ("NumberModels", "right", "LNumberModels$Natural;", true)
  | 8 => ("NumberModels", "division", "LNumberModels$Division;", true)
  | _ => ("NumberModels", "common", "LNumberModels$CommonDivisor;", true)
def K5 : String := "NumberModelsModel"
def T5 : u_T := fun k => match k with
  | 0 => ("NumberModelsModel", "thrown", "I", false)
  | 1 => ("NumberModelsModel", "many", "I", false)
  | 2 => ("NumberModelsModel", "sign", "[I", true)
  | 3 => ("NumberModelsModel", "value", "[J", true)
  | 4 => ("NumberModelsModel", "w", "[J", true)
  | 5 => ("NumberModelsModel", "small", "I", false)
  | 6 => ("NumberModelsModel", "wide", "I", false)
  | 7 => ("NumberModelsModel", "leastPlace", "I", false)
  | 8 => ("NumberModelsModel", "mostPlace", "I", false)
  | _ => ("NumberModelsModel", "rest", "I", false)
def K7 : String := "NumberModels$Format"
def T7 : u_T := fun k => match k with
  | 0 => ("NumberModels$Format", "fractionBits", "I", true)
  | 1 => ("NumberModels$Format", "lastExponent", "I", true)
  | 2 => ("NumberModels$Format", "leastScale", "I", true)
  | 3 => ("NumberModels$Format", "noNumber", "J", true)
  | 4 => ("NumberModels$Format", "infinite", "J", true)
  | _ => ("NumberModels$Format", "signBit", "J", true)
