def RX0 : String := "TypesAtPrime$Factors"
def TX0 : u_T := fun k => match k with
  | 0 => ("TypesAtPrime$Factors", "count", "I", false)
  | 1 => ("TypesAtPrime$Factors", "degrees", "[I", true)
  | 2 => ("TypesAtPrime$Factors", "times", "[I", true)
  | 3 => ("TypesAtPrime$Factors", "rows", "[[I", true)
  | 4 => ("TypesAtPrime$Factors", "prime", "I", false)
  | 5 => ("TypesAtPrime$Factors", "rest", "[I", true)
  | 6 => ("TypesAtPrime$Factors", "image", "[I", true)
  | 7 => ("TypesAtPrime$Factors", "base", "[I", true)
  | 8 => ("TypesAtPrime$Factors", "common", "[I", true)
  | 9 => ("TypesAtPrime$Factors", "other", "[I", true)
  | 10 => ("TypesAtPrime$Factors", "left", "[I", true)
  | 11 => ("TypesAtPrime$Factors", "candidate", "[I", true)
  | _ => ("TypesAtPrime$Factors", "product", "[I", true)
def tyX0 : Nat → FieldType := fun k => match k with
  | 0 => .int
  | 1 => .array .int
  | 2 => .array .int
  | 3 => .array (.array .int)
  | 4 => .int
  | 5 => .array .int
  | 6 => .array .int
  | 7 => .array .int
  | 8 => .array .int
  | 9 => .array .int
  | 10 => .array .int
  | 11 => .array .int
  | _ => .array .int
theorem nmX0 : ∀ a, a < 13 → ∀ b, b < 13 → a ≠ b → (TX0 a).2.1 ≠ (TX0 b).2.1 := by decide +kernel
theorem tyX0_ok : ∀ k, k < 13 → parseFieldDescriptor (TX0 k).2.2.1 = some (tyX0 k) := by decide +kernel
def RX1 : String := "TypesAtPrime$Grower"
def TX1 : u_T := fun k => match k with
  | 0 => ("TypesAtPrime$Grower", "numbers", "LTypesAtPrime$Numbers;", true)
  | 1 => ("TypesAtPrime$Grower", "tree", "LTypesAtPrime$Tree;", true)
  | 2 => ("TypesAtPrime$Grower", "path", "LTypesAtPrime$Path;", true)
  | 3 => ("TypesAtPrime$Grower", "factors", "[LTypesAtPrime$Factors;", true)
  | 4 => ("TypesAtPrime$Grower", "polynomial", "[J", true)
  | 5 => ("TypesAtPrime$Grower", "parts", "[J", true)
  | 6 => ("TypesAtPrime$Grower", "factor", "[J", true)
  | 7 => ("TypesAtPrime$Grower", "product", "[J", true)
  | 8 => ("TypesAtPrime$Grower", "placeValues", "[I", true)
  | 9 => ("TypesAtPrime$Grower", "heads", "[I", true)
  | 10 => ("TypesAtPrime$Grower", "residues", "[I", true)
  | 11 => ("TypesAtPrime$Grower", "corners", "[I", true)
  | _ => ("TypesAtPrime$Grower", "exponents", "[I", true)
def tyX1 : Nat → FieldType := fun k => match k with
  | 0 => .object "TypesAtPrime$Numbers"
  | 1 => .object "TypesAtPrime$Tree"
  | 2 => .object "TypesAtPrime$Path"
  | 3 => .array (.object "TypesAtPrime$Factors")
  | 4 => .array .long
  | 5 => .array .long
  | 6 => .array .long
  | 7 => .array .long
  | 8 => .array .int
  | 9 => .array .int
  | 10 => .array .int
  | 11 => .array .int
  | _ => .array .int
theorem nmX1 : ∀ a, a < 13 → ∀ b, b < 13 → a ≠ b → (TX1 a).2.1 ≠ (TX1 b).2.1 := by decide +kernel
theorem tyX1_ok : ∀ k, k < 13 → parseFieldDescriptor (TX1 k).2.2.1 = some (tyX1 k) := by decide +kernel
def RX2 : String := "TypesAtPrime$Knot"
def TX2 : u_T := fun k => match k with
  | 0 => ("TypesAtPrime$Knot", "level", "I", false)
  | 1 => ("TypesAtPrime$Knot", "manifold", "I", false)
  | 2 => ("TypesAtPrime$Knot", "degree", "I", false)
  | 3 => ("TypesAtPrime$Knot", "above", "I", false)
  | 4 => ("TypesAtPrime$Knot", "first", "I", false)
  | 5 => ("TypesAtPrime$Knot", "index", "I", false)
  | 6 => ("TypesAtPrime$Knot", "firstSide", "I", false)
  | 7 => ("TypesAtPrime$Knot", "sideCount", "I", false)
  | 8 => ("TypesAtPrime$Knot", "key", "[J", true)
  | _ => ("TypesAtPrime$Knot", "points", "[I", true)
def tyX2 : Nat → FieldType := fun k => match k with
  | 0 => .int
  | 1 => .int
  | 2 => .int
  | 3 => .int
  | 4 => .int
  | 5 => .int
  | 6 => .int
  | 7 => .int
  | 8 => .array .long
  | _ => .array .int
theorem nmX2 : ∀ a, a < 10 → ∀ b, b < 10 → a ≠ b → (TX2 a).2.1 ≠ (TX2 b).2.1 := by decide +kernel
theorem tyX2_ok : ∀ k, k < 10 → parseFieldDescriptor (TX2 k).2.2.1 = some (tyX2 k) := by decide +kernel
def RX3 : String := "TypesAtPrime$Leaf"
def TX3 : u_T := fun k => match k with
  | 0 => ("TypesAtPrime$Leaf", "kind", "I", false)
  | 1 => ("TypesAtPrime$Leaf", "ramification", "I", false)
  | 2 => ("TypesAtPrime$Leaf", "residueDegree", "I", false)
  | 3 => ("TypesAtPrime$Leaf", "degree", "I", false)
  | _ => ("TypesAtPrime$Leaf", "knot", "I", false)
def tyX3 : Nat → FieldType := fun k => match k with
  | 0 => .int
  | 1 => .int
  | 2 => .int
  | 3 => .int
  | _ => .int
theorem nmX3 : ∀ a, a < 5 → ∀ b, b < 5 → a ≠ b → (TX3 a).2.1 ≠ (TX3 b).2.1 := by decide +kernel
theorem tyX3_ok : ∀ k, k < 5 → parseFieldDescriptor (TX3 k).2.2.1 = some (tyX3 k) := by decide +kernel
def RX4 : String := "TypesAtPrime$Numbers"
def TX4 : u_T := fun k => match k with
  | 0 => ("TypesAtPrime$Numbers", "prime", "I", false)
  | 1 => ("TypesAtPrime$Numbers", "limit", "I", false)
  | _ => ("TypesAtPrime$Numbers", "size", "J", false)
def tyX4 : Nat → FieldType := fun k => match k with
  | 0 => .int
  | 1 => .int
  | _ => .long
theorem nmX4 : ∀ a, a < 3 → ∀ b, b < 3 → a ≠ b → (TX4 a).2.1 ≠ (TX4 b).2.1 := by decide +kernel
theorem tyX4_ok : ∀ k, k < 3 → parseFieldDescriptor (TX4 k).2.2.1 = some (tyX4 k) := by decide +kernel
def RX5 : String := "TypesAtPrime$Path"
def TX5 : u_T := fun k => match k with
  | 0 => ("TypesAtPrime$Path", "degree", "[I", true)
  | 1 => ("TypesAtPrime$Path", "ramification", "[I", true)
  | 2 => ("TypesAtPrime$Path", "slopeValue", "[I", true)
  | 3 => ("TypesAtPrime$Path", "root", "[I", true)
  | 4 => ("TypesAtPrime$Path", "monomial", "[[I", true)
  | _ => ("TypesAtPrime$Path", "key", "[[J", true)
def tyX5 : Nat → FieldType := fun k => match k with
  | 0 => .array .int
  | 1 => .array .int
  | 2 => .array .int
  | 3 => .array .int
  | 4 => .array (.array .int)
  | _ => .array (.array .long)
theorem nmX5 : ∀ a, a < 6 → ∀ b, b < 6 → a ≠ b → (TX5 a).2.1 ≠ (TX5 b).2.1 := by decide +kernel
theorem tyX5_ok : ∀ k, k < 6 → parseFieldDescriptor (TX5 k).2.2.1 = some (tyX5 k) := by decide +kernel
def RX6 : String := "TypesAtPrime$Sheet"
def TX6 : u_T := fun k => match k with
  | 0 => ("TypesAtPrime$Sheet", "sort", "I", false)
  | 1 => ("TypesAtPrime$Sheet", "size", "I", false)
  | _ => ("TypesAtPrime$Sheet", "numbers", "[I", true)
def tyX6 : Nat → FieldType := fun k => match k with
  | 0 => .int
  | 1 => .int
  | _ => .array .int
theorem nmX6 : ∀ a, a < 3 → ∀ b, b < 3 → a ≠ b → (TX6 a).2.1 ≠ (TX6 b).2.1 := by decide +kernel
theorem tyX6_ok : ∀ k, k < 3 → parseFieldDescriptor (TX6 k).2.2.1 = some (tyX6 k) := by decide +kernel
def RX7 : String := "TypesAtPrime$Side"
def TX7 : u_T := fun k => match k with
  | 0 => ("TypesAtPrime$Side", "begin", "I", false)
  | 1 => ("TypesAtPrime$Side", "end", "I", false)
  | 2 => ("TypesAtPrime$Side", "fall", "I", false)
  | 3 => ("TypesAtPrime$Side", "ramification", "I", false)
  | 4 => ("TypesAtPrime$Side", "parts", "I", false)
  | 5 => ("TypesAtPrime$Side", "slopeValue", "I", false)
  | 6 => ("TypesAtPrime$Side", "monomial", "[I", true)
  | _ => ("TypesAtPrime$Side", "residual", "[I", true)
def tyX7 : Nat → FieldType := fun k => match k with
  | 0 => .int
  | 1 => .int
  | 2 => .int
  | 3 => .int
  | 4 => .int
  | 5 => .int
  | 6 => .array .int
  | _ => .array .int
theorem nmX7 : ∀ a, a < 8 → ∀ b, b < 8 → a ≠ b → (TX7 a).2.1 ≠ (TX7 b).2.1 := by decide +kernel
theorem tyX7_ok : ∀ k, k < 8 → parseFieldDescriptor (TX7 k).2.2.1 = some (tyX7 k) := by decide +kernel
def RX8 : String := "TypesAtPrime$TextReader"
def TX8 : u_T := fun k => match k with
  | 0 => ("TypesAtPrime$TextReader", "sums", "[I", true)
  | 1 => ("TypesAtPrime$TextReader", "letters", "[B", false)
  | 2 => ("TypesAtPrime$TextReader", "size", "I", false)
  | _ => ("TypesAtPrime$TextReader", "place", "I", false)
def tyX8 : Nat → FieldType := fun k => match k with
  | 0 => .array .int
  | 1 => .array .byte
  | 2 => .int
  | _ => .int
theorem nmX8 : ∀ a, a < 4 → ∀ b, b < 4 → a ≠ b → (TX8 a).2.1 ≠ (TX8 b).2.1 := by decide +kernel
theorem tyX8_ok : ∀ k, k < 4 → parseFieldDescriptor (TX8 k).2.2.1 = some (tyX8 k) := by decide +kernel
def RX9 : String := "TypesAtPrime$Tree"
def TX9 : u_T := fun k => match k with
  | 0 => ("TypesAtPrime$Tree", "stands", "Z", false)
  | 1 => ("TypesAtPrime$Tree", "degree", "I", false)
  | 2 => ("TypesAtPrime$Tree", "knotCount", "I", false)
  | 3 => ("TypesAtPrime$Tree", "leafCount", "I", false)
  | 4 => ("TypesAtPrime$Tree", "spellingSize", "I", false)
  | 5 => ("TypesAtPrime$Tree", "spelling", "[B", true)
  | 6 => ("TypesAtPrime$Tree", "sideCount", "I", false)
  | 7 => ("TypesAtPrime$Tree", "knots", "[LTypesAtPrime$Knot;", true)
  | 8 => ("TypesAtPrime$Tree", "sides", "[LTypesAtPrime$Side;", true)
  | _ => ("TypesAtPrime$Tree", "leaves", "[LTypesAtPrime$Leaf;", true)
def tyX9 : Nat → FieldType := fun k => match k with
  | 0 => .boolean
  | 1 => .int
  | 2 => .int
  | 3 => .int
  | 4 => .int
  | 5 => .array .byte
  | 6 => .int
  | 7 => .array (.object "TypesAtPrime$Knot")
  | 8 => .array (.object "TypesAtPrime$Side")
  | _ => .array (.object "TypesAtPrime$Leaf")
theorem nmX9 : ∀ a, a < 10 → ∀ b, b < 10 → a ≠ b → (TX9 a).2.1 ≠ (TX9 b).2.1 := by decide +kernel
theorem tyX9_ok : ∀ k, k < 10 → parseFieldDescriptor (TX9 k).2.2.1 = some (tyX9 k) := by decide +kernel
def RX10 : String := "TypesAtPrime"
def TX10 : u_T := fun k => match k with
  | 0 => ("TypesAtPrime", "numbers", "LTypesAtPrime$Numbers;", true)
  | 1 => ("TypesAtPrime", "tape", "[B", true)
  | 2 => ("TypesAtPrime", "tapeSize", "I", false)
  | 3 => ("TypesAtPrime", "slots", "[[I", true)
  | 4 => ("TypesAtPrime", "sheets", "[LTypesAtPrime$Sheet;", true)
  | 5 => ("TypesAtPrime", "reader", "LTypesAtPrime$TextReader;", true)
  | 6 => ("TypesAtPrime", "factors", "LTypesAtPrime$Factors;", true)
  | 7 => ("TypesAtPrime", "tree", "LTypesAtPrime$Tree;", true)
  | 8 => ("TypesAtPrime", "grower", "LTypesAtPrime$Grower;", true)
  | 9 => ("TypesAtPrime", "expanded", "[J", true)
  | 10 => ("TypesAtPrime", "mixed", "[J", true)
  | _ => ("TypesAtPrime", "corners", "[I", true)
def tyX10 : Nat → FieldType := fun k => match k with
  | 0 => .object "TypesAtPrime$Numbers"
  | 1 => .array .byte
  | 2 => .int
  | 3 => .array (.array .int)
  | 4 => .array (.object "TypesAtPrime$Sheet")
  | 5 => .object "TypesAtPrime$TextReader"
  | 6 => .object "TypesAtPrime$Factors"
  | 7 => .object "TypesAtPrime$Tree"
  | 8 => .object "TypesAtPrime$Grower"
  | 9 => .array .long
  | 10 => .array .long
  | _ => .array .int
theorem nmX10 : ∀ a, a < 12 → ∀ b, b < 12 → a ≠ b → (TX10 a).2.1 ≠ (TX10 b).2.1 := by decide +kernel
theorem tyX10_ok : ∀ k, k < 12 → parseFieldDescriptor (TX10 k).2.2.1 = some (tyX10 k) := by decide +kernel
def RX11 : String := "TypesAtPrimeModel"
def TX11 : u_T := fun k => match k with
  | 0 => ("TypesAtPrimeModel", "p", "I", false)
  | 1 => ("TypesAtPrimeModel", "limit", "I", false)
  | 2 => ("TypesAtPrimeModel", "whole", "J", false)
  | 3 => ("TypesAtPrimeModel", "coefficients", "[I", true)
  | 4 => ("TypesAtPrimeModel", "tape", "[I", true)
  | 5 => ("TypesAtPrimeModel", "taped", "I", false)
  | 6 => ("TypesAtPrimeModel", "at", "I", false)
  | 7 => ("TypesAtPrimeModel", "read", "[J", true)
  | 8 => ("TypesAtPrimeModel", "row", "[J", true)
  | 9 => ("TypesAtPrimeModel", "keys", "[J", true)
  | 10 => ("TypesAtPrimeModel", "left", "[I", true)
  | 11 => ("TypesAtPrimeModel", "leftDegree", "I", false)
  | 12 => ("TypesAtPrimeModel", "factors", "I", false)
  | 13 => ("TypesAtPrimeModel", "factorDegree", "[I", true)
  | 14 => ("TypesAtPrimeModel", "factorTimes", "[I", true)
  | 15 => ("TypesAtPrimeModel", "factorAt", "[I", true)
  | 16 => ("TypesAtPrimeModel", "trial", "[I", true)
  | 17 => ("TypesAtPrimeModel", "rest", "[I", true)
  | 18 => ("TypesAtPrimeModel", "isTree", "Z", false)
  | 19 => ("TypesAtPrimeModel", "its", "[J", true)
  | 20 => ("TypesAtPrimeModel", "itsDegree", "I", false)
  | 21 => ("TypesAtPrimeModel", "knots", "I", false)
  | 22 => ("TypesAtPrimeModel", "sides", "I", false)
  | 23 => ("TypesAtPrimeModel", "leaves", "I", false)
  | 24 => ("TypesAtPrimeModel", "level", "[I", true)
  | 25 => ("TypesAtPrimeModel", "manifold", "[I", true)
  | 26 => ("TypesAtPrimeModel", "above", "[I", true)
  | 27 => ("TypesAtPrimeModel", "firstSide", "[I", true)
  | 28 => ("TypesAtPrimeModel", "manySides", "[I", true)
  | 29 => ("TypesAtPrimeModel", "zeros", "[I", true)
  | 30 => ("TypesAtPrimeModel", "index0", "[I", true)
  | 31 => ("TypesAtPrimeModel", "points", "[I", true)
  | 32 => ("TypesAtPrimeModel", "madeRamified", "[I", true)
  | 33 => ("TypesAtPrimeModel", "madeSlope", "[I", true)
  | 34 => ("TypesAtPrimeModel", "madeRoot", "[I", true)
  | 35 => ("TypesAtPrimeModel", "madeMonomial", "[I", true)
  | 36 => ("TypesAtPrimeModel", "sideFrom", "[I", true)
  | 37 => ("TypesAtPrimeModel", "sideTo", "[I", true)
  | 38 => ("TypesAtPrimeModel", "sideFall", "[I", true)
  | 39 => ("TypesAtPrimeModel", "sideRamified", "[I", true)
  | 40 => ("TypesAtPrimeModel", "sideDegree", "[I", true)
  | 41 => ("TypesAtPrimeModel", "sideSlope", "[I", true)
  | 42 => ("TypesAtPrimeModel", "sideMonomial", "[I", true)
  | 43 => ("TypesAtPrimeModel", "sideResidual", "[I", true)
  | 44 => ("TypesAtPrimeModel", "leafKind", "[I", true)
  | 45 => ("TypesAtPrimeModel", "leafRamified", "[I", true)
  | 46 => ("TypesAtPrimeModel", "leafResidue", "[I", true)
  | 47 => ("TypesAtPrimeModel", "leafDegree", "[I", true)
  | 48 => ("TypesAtPrimeModel", "leafKnot", "[I", true)
  | 49 => ("TypesAtPrimeModel", "depth", "I", false)
  | 50 => ("TypesAtPrimeModel", "ramified", "[I", true)
  | 51 => ("TypesAtPrimeModel", "keyDegree", "[I", true)
  | 52 => ("TypesAtPrimeModel", "slopes", "[I", true)
  | 53 => ("TypesAtPrimeModel", "keyOf", "[I", true)
  | 54 => ("TypesAtPrimeModel", "madeOf", "[I", true)
  | 55 => ("TypesAtPrimeModel", "monomial0", "[I", true)
  | 56 => ("TypesAtPrimeModel", "headResidue", "I", false)
  | 57 => ("TypesAtPrimeModel", "product", "[J", true)
  | 58 => ("TypesAtPrimeModel", "knotAt", "[I", true)
  | 59 => ("TypesAtPrimeModel", "sideAt", "[I", true)
  | 60 => ("TypesAtPrimeModel", "nextAt", "[I", true)
  | 61 => ("TypesAtPrimeModel", "height", "I", false)
  | 62 => ("TypesAtPrimeModel", "spelled", "[I", true)
  | 63 => ("TypesAtPrimeModel", "spelledMany", "I", false)
  | 64 => ("TypesAtPrimeModel", "sorts", "[I", true)
  | 65 => ("TypesAtPrimeModel", "sizes", "[I", true)
  | _ => ("TypesAtPrimeModel", "numbers", "[I", true)
def tyX11 : Nat → FieldType := fun k => match k with
  | 0 => .int
  | 1 => .int
  | 2 => .long
  | 3 => .array .int
  | 4 => .array .int
  | 5 => .int
  | 6 => .int
  | 7 => .array .long
  | 8 => .array .long
  | 9 => .array .long
  | 10 => .array .int
  | 11 => .int
  | 12 => .int
  | 13 => .array .int
  | 14 => .array .int
  | 15 => .array .int
  | 16 => .array .int
  | 17 => .array .int
  | 18 => .boolean
  | 19 => .array .long
  | 20 => .int
  | 21 => .int
  | 22 => .int
  | 23 => .int
  | 24 => .array .int
  | 25 => .array .int
  | 26 => .array .int
  | 27 => .array .int
  | 28 => .array .int
  | 29 => .array .int
  | 30 => .array .int
  | 31 => .array .int
  | 32 => .array .int
  | 33 => .array .int
  | 34 => .array .int
  | 35 => .array .int
  | 36 => .array .int
  | 37 => .array .int
  | 38 => .array .int
  | 39 => .array .int
  | 40 => .array .int
  | 41 => .array .int
  | 42 => .array .int
  | 43 => .array .int
  | 44 => .array .int
  | 45 => .array .int
  | 46 => .array .int
  | 47 => .array .int
  | 48 => .array .int
  | 49 => .int
  | 50 => .array .int
  | 51 => .array .int
  | 52 => .array .int
  | 53 => .array .int
  | 54 => .array .int
  | 55 => .array .int
  | 56 => .int
  | 57 => .array .long
  | 58 => .array .int
  | 59 => .array .int
  | 60 => .array .int
  | 61 => .int
  | 62 => .array .int
  | 63 => .int
  | 64 => .array .int
  | 65 => .array .int
  | _ => .array .int
theorem nmX11 : ∀ a, a < 67 → ∀ b, b < 67 → a ≠ b → (TX11 a).2.1 ≠ (TX11 b).2.1 := by decide +kernel
theorem tyX11_ok : ∀ k, k < 67 → parseFieldDescriptor (TX11 k).2.2.1 = some (tyX11 k) := by decide +kernel
def vwCl : List vw_C := [(RX0, TX0, 13), (RX1, TX1, 13), (RX2, TX2, 10), (RX3, TX3, 5), (RX4, TX4, 3), (RX5, TX5, 6), (RX6, TX6, 3), (RX7, TX7, 8), (RX8, TX8, 4), (RX9, TX9, 10), (RX10, TX10, 12), (RX11, TX11, 67)]
def tp_ats : List (Nat × FieldType) := [(20, .byte), (21, .int), (22, .long), (23, .array .int), (24, .array .long), (25, .object "TypesAtPrime$Factors"), (26, .object "TypesAtPrime$Knot"), (27, .object "TypesAtPrime$Leaf"), (28, .object "TypesAtPrime$Sheet"), (29, .object "TypesAtPrime$Side")]
def tp_over : List FieldType := [(.array .int), (.object "TypesAtPrime$Sheet"), (.object "TypesAtPrime$Knot"), (.object "TypesAtPrime$Side"), (.object "TypesAtPrime$Leaf"), (.array .long), (.object "TypesAtPrime$Factors")]
def tp_nest : List Cond := [.methodLinkNest "TypesAtPrime" 11 ⟨"TypesAtPrime$Numbers", "<init>", "()V"⟩ "TypesAtPrime", .methodLinkNest "TypesAtPrime" 33 ⟨"TypesAtPrime$Sheet", "<init>", "()V"⟩ "TypesAtPrime", .methodLinkNest "TypesAtPrime" 36 ⟨"TypesAtPrime$TextReader", "<init>", "()V"⟩ "TypesAtPrime", .methodLinkNest "TypesAtPrime" 43 ⟨"TypesAtPrime$Factors", "<init>", "()V"⟩ "TypesAtPrime", .methodLinkNest "TypesAtPrime$Tree" 33 ⟨"TypesAtPrime$Knot", "<init>", "()V"⟩ "TypesAtPrime", .methodLinkNest "TypesAtPrime$Tree" 34 ⟨"TypesAtPrime$Side", "<init>", "()V"⟩ "TypesAtPrime", .methodLinkNest "TypesAtPrime$Tree" 35 ⟨"TypesAtPrime$Leaf", "<init>", "()V"⟩ "TypesAtPrime", .methodLinkNest "TypesAtPrime$Grower" 11 ⟨"TypesAtPrime$Path", "<init>", "()V"⟩ "TypesAtPrime", .methodLinkNest "TypesAtPrime$Grower" 61 ⟨"TypesAtPrime$Factors", "<init>", "()V"⟩ "TypesAtPrime", .fieldLinkNest "TypesAtPrime$Numbers" 22 "TypesAtPrime" "PRIMES" "[I" "TypesAtPrime", .fieldLinkNest "TypesAtPrime$Numbers" 28 "TypesAtPrime" "LIMITS" "[I" "TypesAtPrime", .methodLinkNest "TypesAtPrime$Factors" 58 ⟨"TypesAtPrime", "degreeOf", "([I)I"⟩ "TypesAtPrime", .methodLinkNest "TypesAtPrime$Factors" 112 ⟨"TypesAtPrime", "remainder", "(II)I"⟩ "TypesAtPrime", .methodLinkNest "TypesAtPrime$Factors" 115 ⟨"TypesAtPrime", "quotient", "(II)I"⟩ "TypesAtPrime", .methodLinkNest "TypesAtPrime$Grower" 115 ⟨"TypesAtPrime", "remainder", "(II)I"⟩ "TypesAtPrime", .methodLinkNest "TypesAtPrime$Path" 59 ⟨"TypesAtPrime", "quotient", "(II)I"⟩ "TypesAtPrime", .methodLinkNest "TypesAtPrime$Path" 63 ⟨"TypesAtPrime", "remainder", "(II)I"⟩ "TypesAtPrime", .methodLinkNest "TypesAtPrime$Grower" 244 ⟨"TypesAtPrime", "isPower", "(I)Z"⟩ "TypesAtPrime", .methodLinkNest "TypesAtPrime$Grower" 260 ⟨"TypesAtPrime", "findCorners", "([III[I)I"⟩ "TypesAtPrime", .methodLinkNest "TypesAtPrime$Grower" 288 ⟨"TypesAtPrime", "greatestDivisor", "(II)I"⟩ "TypesAtPrime", .methodLinkNest "TypesAtPrime$Grower" 293 ⟨"TypesAtPrime", "quotient", "(II)I"⟩ "TypesAtPrime"]
def tp_isnest : Cond → Bool
  | .methodLinkNest .. => true
  | .fieldLinkNest .. => true
  | _ => false
theorem tp_nest_ok : tp_nest.all tp_isnest = true := by decide +kernel
theorem tp_nest_in : ∀ w ∈ tp_nest, w ∈ lw_tbl := by decide +kernel
def tp_fty : List (List Nat) := [[0, 2, 2, 2, 0, 2, 2, 2, 2, 2, 2, 2, 2], [2, 2, 2, 2, 2, 2, 2, 2, 2, 2, 2, 2, 2], [0, 0, 0, 0, 0, 0, 0, 0, 2, 2], [0, 0, 0, 0, 0], [0, 0, 1], [2, 2, 2, 2, 2, 2], [0, 0, 2], [0, 0, 0, 0, 0, 0, 2, 2], [2, 3, 0, 0], [0, 0, 0, 0, 0, 2, 0, 2, 2, 2], [2, 2, 0, 2, 2, 2, 2, 2, 2, 2, 2, 2], [0, 0, 1, 2, 2, 0, 0, 2, 2, 2, 2, 0, 0, 2, 2, 2, 2, 2, 0, 2, 0, 0, 0, 0, 2, 2, 2, 2, 2, 2, 2, 2, 2, 2, 2, 2, 2, 2, 2, 2, 2, 2, 2, 2, 2, 2, 2, 2, 2, 0, 2, 2, 2, 2, 2, 2, 0, 2, 2, 2, 2, 0, 2, 0, 2, 2, 2]]
def tp_ty (t k : Nat) : Nat := if t < 20 then (tp_fty.getD t []).getD k 0 else if t = 22 then 1 else if 23 ≤ t then 2 else 0
def tp_lay_0 : List (Nat × List Int) := [(10, [1, 2, 0, 3, 9, 18, 20, 41, 278, 480, 481, 482]), (4, [3, 18, 387420489]), (20, List.replicate 80 (0)), (23, [4, 5, 6, 7, 8]), (21, List.replicate 9 (0)), (21, List.replicate 9 (0)), (21, List.replicate 9 (0)), (21, List.replicate 9 (0)), (21, List.replicate 9 (0)), (28, [10, 12, 14, 16]), (6, [-1, 0, 11]), (21, List.replicate 40 (0)), (6, [-1, 0, 13]), (21, List.replicate 40 (0)), (6, [-1, 0, 15]), (21, List.replicate 40 (0)), (6, [-1, 0, 17]), (21, List.replicate 40 (0)), (8, [19, -1, 0, 0]), (21, List.replicate 9 (0)), (0, [0, 21, 22, 23, 0, 33, 34, 35, 36, 37, 38, 39, 40]), (21, List.replicate 9 (0)), (21, List.replicate 9 (0)), (23, [24, 25, 26, 27, 28, 29, 30, 31, 32]), (21, List.replicate 9 (0)), (21, List.replicate 9 (0)), (21, List.replicate 9 (0)), (21, List.replicate 9 (0)), (21, List.replicate 9 (0)), (21, List.replicate 9 (0)), (21, List.replicate 9 (0)), (21, List.replicate 9 (0)), (21, List.replicate 9 (0)), (21, List.replicate 9 (0)), (21, List.replicate 9 (0)), (21, List.replicate 9 (0)), (21, List.replicate 9 (0)), (21, List.replicate 9 (0)), (21, List.replicate 9 (0)), (21, List.replicate 9 (0)), (21, List.replicate 18 (0)), (9, [0, 0, 0, 0, 0, 42, 0, 43, 44, 45]), (20, List.replicate 80 (0)), (26, [46, 49, 52, 55, 58, 61, 64, 67, 70, 73, 76, 79, 82, 85, 88, 91, 94, 97, 100, 103, 106, 109, 112, 115]), (29, [118, 121, 124, 127, 130, 133, 136, 139, 142, 145, 148, 151, 154, 157, 160, 163, 166, 169, 172, 175, 178, 181, 184, 187, 190, 193, 196, 199, 202, 205, 208, 211, 214, 217, 220, 223, 226, 229, 232, 235, 238, 241, 244, 247, 250, 253, 256, 259]), (27, [262, 263, 264, 265, 266, 267, 268, 269, 270, 271, 272, 273, 274, 275, 276, 277]), (2, [0, 0, 0, 0, 0, 0, 0, 0, 47, 48]), (22, List.replicate 9 (0)), (21, List.replicate 9 (0)), (2, [0, 0, 0, 0, 0, 0, 0, 0, 50, 51]), (22, List.replicate 9 (0)), (21, List.replicate 9 (0)), (2, [0, 0, 0, 0, 0, 0, 0, 0, 53, 54]), (22, List.replicate 9 (0)), (21, List.replicate 9 (0)), (2, [0, 0, 0, 0, 0, 0, 0, 0, 56, 57]), (22, List.replicate 9 (0)), (21, List.replicate 9 (0)), (2, [0, 0, 0, 0, 0, 0, 0, 0, 59, 60]), (22, List.replicate 9 (0))]
def tp_lay_1 : List (Nat × List Int) := [(21, List.replicate 9 (0)), (2, [0, 0, 0, 0, 0, 0, 0, 0, 62, 63]), (22, List.replicate 9 (0)), (21, List.replicate 9 (0)), (2, [0, 0, 0, 0, 0, 0, 0, 0, 65, 66]), (22, List.replicate 9 (0)), (21, List.replicate 9 (0)), (2, [0, 0, 0, 0, 0, 0, 0, 0, 68, 69]), (22, List.replicate 9 (0)), (21, List.replicate 9 (0)), (2, [0, 0, 0, 0, 0, 0, 0, 0, 71, 72]), (22, List.replicate 9 (0)), (21, List.replicate 9 (0)), (2, [0, 0, 0, 0, 0, 0, 0, 0, 74, 75]), (22, List.replicate 9 (0)), (21, List.replicate 9 (0)), (2, [0, 0, 0, 0, 0, 0, 0, 0, 77, 78]), (22, List.replicate 9 (0)), (21, List.replicate 9 (0)), (2, [0, 0, 0, 0, 0, 0, 0, 0, 80, 81]), (22, List.replicate 9 (0)), (21, List.replicate 9 (0)), (2, [0, 0, 0, 0, 0, 0, 0, 0, 83, 84]), (22, List.replicate 9 (0)), (21, List.replicate 9 (0)), (2, [0, 0, 0, 0, 0, 0, 0, 0, 86, 87]), (22, List.replicate 9 (0)), (21, List.replicate 9 (0)), (2, [0, 0, 0, 0, 0, 0, 0, 0, 89, 90]), (22, List.replicate 9 (0)), (21, List.replicate 9 (0)), (2, [0, 0, 0, 0, 0, 0, 0, 0, 92, 93]), (22, List.replicate 9 (0)), (21, List.replicate 9 (0)), (2, [0, 0, 0, 0, 0, 0, 0, 0, 95, 96]), (22, List.replicate 9 (0)), (21, List.replicate 9 (0)), (2, [0, 0, 0, 0, 0, 0, 0, 0, 98, 99]), (22, List.replicate 9 (0)), (21, List.replicate 9 (0)), (2, [0, 0, 0, 0, 0, 0, 0, 0, 101, 102]), (22, List.replicate 9 (0)), (21, List.replicate 9 (0)), (2, [0, 0, 0, 0, 0, 0, 0, 0, 104, 105]), (22, List.replicate 9 (0)), (21, List.replicate 9 (0)), (2, [0, 0, 0, 0, 0, 0, 0, 0, 107, 108]), (22, List.replicate 9 (0)), (21, List.replicate 9 (0)), (2, [0, 0, 0, 0, 0, 0, 0, 0, 110, 111]), (22, List.replicate 9 (0)), (21, List.replicate 9 (0)), (2, [0, 0, 0, 0, 0, 0, 0, 0, 113, 114]), (22, List.replicate 9 (0)), (21, List.replicate 9 (0)), (2, [0, 0, 0, 0, 0, 0, 0, 0, 116, 117]), (22, List.replicate 9 (0)), (21, List.replicate 9 (0)), (7, [0, 0, 0, 0, 0, 0, 119, 120]), (21, List.replicate 8 (0))]
def tp_lay_2 : List (Nat × List Int) := [(21, List.replicate 9 (0)), (7, [0, 0, 0, 0, 0, 0, 122, 123]), (21, List.replicate 8 (0)), (21, List.replicate 9 (0)), (7, [0, 0, 0, 0, 0, 0, 125, 126]), (21, List.replicate 8 (0)), (21, List.replicate 9 (0)), (7, [0, 0, 0, 0, 0, 0, 128, 129]), (21, List.replicate 8 (0)), (21, List.replicate 9 (0)), (7, [0, 0, 0, 0, 0, 0, 131, 132]), (21, List.replicate 8 (0)), (21, List.replicate 9 (0)), (7, [0, 0, 0, 0, 0, 0, 134, 135]), (21, List.replicate 8 (0)), (21, List.replicate 9 (0)), (7, [0, 0, 0, 0, 0, 0, 137, 138]), (21, List.replicate 8 (0)), (21, List.replicate 9 (0)), (7, [0, 0, 0, 0, 0, 0, 140, 141]), (21, List.replicate 8 (0)), (21, List.replicate 9 (0)), (7, [0, 0, 0, 0, 0, 0, 143, 144]), (21, List.replicate 8 (0)), (21, List.replicate 9 (0)), (7, [0, 0, 0, 0, 0, 0, 146, 147]), (21, List.replicate 8 (0)), (21, List.replicate 9 (0)), (7, [0, 0, 0, 0, 0, 0, 149, 150]), (21, List.replicate 8 (0)), (21, List.replicate 9 (0)), (7, [0, 0, 0, 0, 0, 0, 152, 153]), (21, List.replicate 8 (0)), (21, List.replicate 9 (0)), (7, [0, 0, 0, 0, 0, 0, 155, 156]), (21, List.replicate 8 (0)), (21, List.replicate 9 (0)), (7, [0, 0, 0, 0, 0, 0, 158, 159]), (21, List.replicate 8 (0)), (21, List.replicate 9 (0)), (7, [0, 0, 0, 0, 0, 0, 161, 162]), (21, List.replicate 8 (0)), (21, List.replicate 9 (0)), (7, [0, 0, 0, 0, 0, 0, 164, 165]), (21, List.replicate 8 (0)), (21, List.replicate 9 (0)), (7, [0, 0, 0, 0, 0, 0, 167, 168]), (21, List.replicate 8 (0)), (21, List.replicate 9 (0)), (7, [0, 0, 0, 0, 0, 0, 170, 171]), (21, List.replicate 8 (0)), (21, List.replicate 9 (0)), (7, [0, 0, 0, 0, 0, 0, 173, 174]), (21, List.replicate 8 (0)), (21, List.replicate 9 (0)), (7, [0, 0, 0, 0, 0, 0, 176, 177]), (21, List.replicate 8 (0)), (21, List.replicate 9 (0)), (7, [0, 0, 0, 0, 0, 0, 179, 180]), (21, List.replicate 8 (0))]
def tp_lay_3 : List (Nat × List Int) := [(21, List.replicate 9 (0)), (7, [0, 0, 0, 0, 0, 0, 182, 183]), (21, List.replicate 8 (0)), (21, List.replicate 9 (0)), (7, [0, 0, 0, 0, 0, 0, 185, 186]), (21, List.replicate 8 (0)), (21, List.replicate 9 (0)), (7, [0, 0, 0, 0, 0, 0, 188, 189]), (21, List.replicate 8 (0)), (21, List.replicate 9 (0)), (7, [0, 0, 0, 0, 0, 0, 191, 192]), (21, List.replicate 8 (0)), (21, List.replicate 9 (0)), (7, [0, 0, 0, 0, 0, 0, 194, 195]), (21, List.replicate 8 (0)), (21, List.replicate 9 (0)), (7, [0, 0, 0, 0, 0, 0, 197, 198]), (21, List.replicate 8 (0)), (21, List.replicate 9 (0)), (7, [0, 0, 0, 0, 0, 0, 200, 201]), (21, List.replicate 8 (0)), (21, List.replicate 9 (0)), (7, [0, 0, 0, 0, 0, 0, 203, 204]), (21, List.replicate 8 (0)), (21, List.replicate 9 (0)), (7, [0, 0, 0, 0, 0, 0, 206, 207]), (21, List.replicate 8 (0)), (21, List.replicate 9 (0)), (7, [0, 0, 0, 0, 0, 0, 209, 210]), (21, List.replicate 8 (0)), (21, List.replicate 9 (0)), (7, [0, 0, 0, 0, 0, 0, 212, 213]), (21, List.replicate 8 (0)), (21, List.replicate 9 (0)), (7, [0, 0, 0, 0, 0, 0, 215, 216]), (21, List.replicate 8 (0)), (21, List.replicate 9 (0)), (7, [0, 0, 0, 0, 0, 0, 218, 219]), (21, List.replicate 8 (0)), (21, List.replicate 9 (0)), (7, [0, 0, 0, 0, 0, 0, 221, 222]), (21, List.replicate 8 (0)), (21, List.replicate 9 (0)), (7, [0, 0, 0, 0, 0, 0, 224, 225]), (21, List.replicate 8 (0)), (21, List.replicate 9 (0)), (7, [0, 0, 0, 0, 0, 0, 227, 228]), (21, List.replicate 8 (0)), (21, List.replicate 9 (0)), (7, [0, 0, 0, 0, 0, 0, 230, 231]), (21, List.replicate 8 (0)), (21, List.replicate 9 (0)), (7, [0, 0, 0, 0, 0, 0, 233, 234]), (21, List.replicate 8 (0)), (21, List.replicate 9 (0)), (7, [0, 0, 0, 0, 0, 0, 236, 237]), (21, List.replicate 8 (0)), (21, List.replicate 9 (0)), (7, [0, 0, 0, 0, 0, 0, 239, 240]), (21, List.replicate 8 (0))]
def tp_lay_4 : List (Nat × List Int) := [(21, List.replicate 9 (0)), (7, [0, 0, 0, 0, 0, 0, 242, 243]), (21, List.replicate 8 (0)), (21, List.replicate 9 (0)), (7, [0, 0, 0, 0, 0, 0, 245, 246]), (21, List.replicate 8 (0)), (21, List.replicate 9 (0)), (7, [0, 0, 0, 0, 0, 0, 248, 249]), (21, List.replicate 8 (0)), (21, List.replicate 9 (0)), (7, [0, 0, 0, 0, 0, 0, 251, 252]), (21, List.replicate 8 (0)), (21, List.replicate 9 (0)), (7, [0, 0, 0, 0, 0, 0, 254, 255]), (21, List.replicate 8 (0)), (21, List.replicate 9 (0)), (7, [0, 0, 0, 0, 0, 0, 257, 258]), (21, List.replicate 8 (0)), (21, List.replicate 9 (0)), (7, [0, 0, 0, 0, 0, 0, 260, 261]), (21, List.replicate 8 (0)), (21, List.replicate 9 (0)), (3, List.replicate 5 (0)), (3, List.replicate 5 (0)), (3, List.replicate 5 (0)), (3, List.replicate 5 (0)), (3, List.replicate 5 (0)), (3, List.replicate 5 (0)), (3, List.replicate 5 (0)), (3, List.replicate 5 (0)), (3, List.replicate 5 (0)), (3, List.replicate 5 (0)), (3, List.replicate 5 (0)), (3, List.replicate 5 (0)), (3, List.replicate 5 (0)), (3, List.replicate 5 (0)), (3, List.replicate 5 (0)), (3, List.replicate 5 (0)), (1, [1, 41, 279, 302, 303, 304, 305, 306, 307, 308, 309, 310, 311]), (5, [280, 281, 282, 283, 284, 293]), (21, List.replicate 8 (0)), (21, List.replicate 8 (0)), (21, List.replicate 8 (0)), (21, List.replicate 8 (0)), (23, [285, 286, 287, 288, 289, 290, 291, 292]), (21, List.replicate 8 (0)), (21, List.replicate 8 (0)), (21, List.replicate 8 (0)), (21, List.replicate 8 (0)), (21, List.replicate 8 (0)), (21, List.replicate 8 (0)), (21, List.replicate 8 (0)), (21, List.replicate 8 (0)), (24, [294, 295, 296, 297, 298, 299, 300, 301]), (22, List.replicate 9 (0)), (22, List.replicate 9 (0)), (22, List.replicate 9 (0)), (22, List.replicate 9 (0)), (22, List.replicate 9 (0)), (22, List.replicate 9 (0))]
def tp_lay_5 : List (Nat × List Int) := [(22, List.replicate 9 (0)), (22, List.replicate 9 (0)), (25, [312, 333, 354, 375, 396, 417, 438, 459]), (22, List.replicate 9 (0)), (22, List.replicate 18 (0)), (22, List.replicate 9 (0)), (22, List.replicate 9 (0)), (21, List.replicate 9 (0)), (21, List.replicate 9 (0)), (21, List.replicate 9 (0)), (21, List.replicate 9 (0)), (21, List.replicate 8 (0)), (0, [0, 313, 314, 315, 0, 325, 326, 327, 328, 329, 330, 331, 332]), (21, List.replicate 9 (0)), (21, List.replicate 9 (0)), (23, [316, 317, 318, 319, 320, 321, 322, 323, 324]), (21, List.replicate 9 (0)), (21, List.replicate 9 (0)), (21, List.replicate 9 (0)), (21, List.replicate 9 (0)), (21, List.replicate 9 (0)), (21, List.replicate 9 (0)), (21, List.replicate 9 (0)), (21, List.replicate 9 (0)), (21, List.replicate 9 (0)), (21, List.replicate 9 (0)), (21, List.replicate 9 (0)), (21, List.replicate 9 (0)), (21, List.replicate 9 (0)), (21, List.replicate 9 (0)), (21, List.replicate 9 (0)), (21, List.replicate 9 (0)), (21, List.replicate 18 (0)), (0, [0, 334, 335, 336, 0, 346, 347, 348, 349, 350, 351, 352, 353]), (21, List.replicate 9 (0)), (21, List.replicate 9 (0)), (23, [337, 338, 339, 340, 341, 342, 343, 344, 345]), (21, List.replicate 9 (0)), (21, List.replicate 9 (0)), (21, List.replicate 9 (0)), (21, List.replicate 9 (0)), (21, List.replicate 9 (0)), (21, List.replicate 9 (0)), (21, List.replicate 9 (0)), (21, List.replicate 9 (0)), (21, List.replicate 9 (0)), (21, List.replicate 9 (0)), (21, List.replicate 9 (0)), (21, List.replicate 9 (0)), (21, List.replicate 9 (0)), (21, List.replicate 9 (0)), (21, List.replicate 9 (0)), (21, List.replicate 9 (0)), (21, List.replicate 18 (0)), (0, [0, 355, 356, 357, 0, 367, 368, 369, 370, 371, 372, 373, 374]), (21, List.replicate 9 (0)), (21, List.replicate 9 (0)), (23, [358, 359, 360, 361, 362, 363, 364, 365, 366]), (21, List.replicate 9 (0)), (21, List.replicate 9 (0))]
def tp_lay_6 : List (Nat × List Int) := [(21, List.replicate 9 (0)), (21, List.replicate 9 (0)), (21, List.replicate 9 (0)), (21, List.replicate 9 (0)), (21, List.replicate 9 (0)), (21, List.replicate 9 (0)), (21, List.replicate 9 (0)), (21, List.replicate 9 (0)), (21, List.replicate 9 (0)), (21, List.replicate 9 (0)), (21, List.replicate 9 (0)), (21, List.replicate 9 (0)), (21, List.replicate 9 (0)), (21, List.replicate 9 (0)), (21, List.replicate 18 (0)), (0, [0, 376, 377, 378, 0, 388, 389, 390, 391, 392, 393, 394, 395]), (21, List.replicate 9 (0)), (21, List.replicate 9 (0)), (23, [379, 380, 381, 382, 383, 384, 385, 386, 387]), (21, List.replicate 9 (0)), (21, List.replicate 9 (0)), (21, List.replicate 9 (0)), (21, List.replicate 9 (0)), (21, List.replicate 9 (0)), (21, List.replicate 9 (0)), (21, List.replicate 9 (0)), (21, List.replicate 9 (0)), (21, List.replicate 9 (0)), (21, List.replicate 9 (0)), (21, List.replicate 9 (0)), (21, List.replicate 9 (0)), (21, List.replicate 9 (0)), (21, List.replicate 9 (0)), (21, List.replicate 9 (0)), (21, List.replicate 9 (0)), (21, List.replicate 18 (0)), (0, [0, 397, 398, 399, 0, 409, 410, 411, 412, 413, 414, 415, 416]), (21, List.replicate 9 (0)), (21, List.replicate 9 (0)), (23, [400, 401, 402, 403, 404, 405, 406, 407, 408]), (21, List.replicate 9 (0)), (21, List.replicate 9 (0)), (21, List.replicate 9 (0)), (21, List.replicate 9 (0)), (21, List.replicate 9 (0)), (21, List.replicate 9 (0)), (21, List.replicate 9 (0)), (21, List.replicate 9 (0)), (21, List.replicate 9 (0)), (21, List.replicate 9 (0)), (21, List.replicate 9 (0)), (21, List.replicate 9 (0)), (21, List.replicate 9 (0)), (21, List.replicate 9 (0)), (21, List.replicate 9 (0)), (21, List.replicate 9 (0)), (21, List.replicate 18 (0)), (0, [0, 418, 419, 420, 0, 430, 431, 432, 433, 434, 435, 436, 437]), (21, List.replicate 9 (0)), (21, List.replicate 9 (0))]
def tp_lay_7 : List (Nat × List Int) := [(23, [421, 422, 423, 424, 425, 426, 427, 428, 429]), (21, List.replicate 9 (0)), (21, List.replicate 9 (0)), (21, List.replicate 9 (0)), (21, List.replicate 9 (0)), (21, List.replicate 9 (0)), (21, List.replicate 9 (0)), (21, List.replicate 9 (0)), (21, List.replicate 9 (0)), (21, List.replicate 9 (0)), (21, List.replicate 9 (0)), (21, List.replicate 9 (0)), (21, List.replicate 9 (0)), (21, List.replicate 9 (0)), (21, List.replicate 9 (0)), (21, List.replicate 9 (0)), (21, List.replicate 9 (0)), (21, List.replicate 18 (0)), (0, [0, 439, 440, 441, 0, 451, 452, 453, 454, 455, 456, 457, 458]), (21, List.replicate 9 (0)), (21, List.replicate 9 (0)), (23, [442, 443, 444, 445, 446, 447, 448, 449, 450]), (21, List.replicate 9 (0)), (21, List.replicate 9 (0)), (21, List.replicate 9 (0)), (21, List.replicate 9 (0)), (21, List.replicate 9 (0)), (21, List.replicate 9 (0)), (21, List.replicate 9 (0)), (21, List.replicate 9 (0)), (21, List.replicate 9 (0)), (21, List.replicate 9 (0)), (21, List.replicate 9 (0)), (21, List.replicate 9 (0)), (21, List.replicate 9 (0)), (21, List.replicate 9 (0)), (21, List.replicate 9 (0)), (21, List.replicate 9 (0)), (21, List.replicate 18 (0)), (0, [0, 460, 461, 462, 0, 472, 473, 474, 475, 476, 477, 478, 479]), (21, List.replicate 9 (0)), (21, List.replicate 9 (0)), (23, [463, 464, 465, 466, 467, 468, 469, 470, 471]), (21, List.replicate 9 (0)), (21, List.replicate 9 (0)), (21, List.replicate 9 (0)), (21, List.replicate 9 (0)), (21, List.replicate 9 (0)), (21, List.replicate 9 (0)), (21, List.replicate 9 (0)), (21, List.replicate 9 (0)), (21, List.replicate 9 (0)), (21, List.replicate 9 (0)), (21, List.replicate 9 (0)), (21, List.replicate 9 (0)), (21, List.replicate 9 (0)), (21, List.replicate 9 (0)), (21, List.replicate 9 (0)), (21, List.replicate 9 (0)), (21, List.replicate 18 (0))]
def tp_lay_8 : List (Nat × List Int) := [(22, List.replicate 9 (0)), (22, List.replicate 18 (0)), (21, List.replicate 40 (0)), (11, [3, 18, 387420489, 484, 485, 0, 0, 486, 487, 488, 489, 0, 0, 490, 491, 492, 493, 494, 0, 495, 0, 0, 0, 0, 496, 497, 498, 499, 500, 501, 502, 503, 504, 505, 506, 507, 508, 509, 510, 511, 512, 513, 514, 515, 516, 517, 518, 519, 520, 0, 521, 522, 523, 524, 525, 526, 0, 527, 528, 529, 530, 0, 531, 0, 532, 533, 534]), (21, List.replicate 45 (0)), (21, List.replicate 80 (0)), (22, List.replicate 9 (0)), (22, List.replicate 24 (0)), (22, List.replicate 369 (0)), (21, List.replicate 9 (0)), (21, List.replicate 9 (0)), (21, List.replicate 9 (0)), (21, List.replicate 81 (0)), (21, List.replicate 9 (0)), (21, List.replicate 9 (0)), (22, List.replicate 9 (0)), (21, List.replicate 40 (0)), (21, List.replicate 40 (0)), (21, List.replicate 40 (0)), (21, List.replicate 40 (0)), (21, List.replicate 40 (0)), (21, List.replicate 40 (0)), (21, List.replicate 40 (0)), (21, List.replicate 360 (0)), (21, List.replicate 40 (0)), (21, List.replicate 40 (0)), (21, List.replicate 40 (0)), (21, List.replicate 280 (0)), (21, List.replicate 64 (0)), (21, List.replicate 64 (0)), (21, List.replicate 64 (0)), (21, List.replicate 64 (0)), (21, List.replicate 64 (0)), (21, List.replicate 64 (0)), (21, List.replicate 448 (0)), (21, List.replicate 576 (0)), (21, List.replicate 20 (0)), (21, List.replicate 20 (0)), (21, List.replicate 20 (0)), (21, List.replicate 20 (0)), (21, List.replicate 20 (0)), (21, List.replicate 8 (0)), (21, List.replicate 8 (0)), (21, List.replicate 8 (0)), (21, List.replicate 8 (0)), (21, List.replicate 8 (0)), (21, List.replicate 7 (0)), (22, List.replicate 9 (0)), (21, List.replicate 8 (0)), (21, List.replicate 8 (0)), (21, List.replicate 8 (0)), (21, List.replicate 160 (0)), (21, [-1, -1, -1, -1]), (21, [0, 0, 0, 0]), (21, List.replicate 160 (0))]
def tp_lay : List (Nat × List Int) := tp_lay_0 ++ (tp_lay_1 ++ (tp_lay_2 ++ (tp_lay_3 ++ (tp_lay_4 ++ (tp_lay_5 ++ (tp_lay_6 ++ (tp_lay_7 ++ (tp_lay_8))))))))
def tp_NC : Nat := 535
theorem tp_lay_len : tp_lay.length = 535 := by decide +kernel
