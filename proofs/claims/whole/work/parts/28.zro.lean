/-! THE START: the fixed objects, and what is given of them (written by a program of the verifier's) -/
section ZRO
def zelC (tm : Term) : Nat → List Int32 → List Cond
  | _, [] => []
  | j, v :: vs => Cond.eq (.elem tm (.int (Int32.ofNat j))) (.int v) :: zelC tm (j + 1) vs
/-- what is given of an array of numbers -/
def zarrC (tm : Term) (ty : FieldType) (vs : List Int32) : List Cond := Cond.arrayOf tm ty :: Cond.eq (.length tm) (.int (Int32.ofNat vs.length)) :: zelC tm 0 vs
/-- of a text constant -/
def zstrC (own : String) (idx : Nat) (vs : List Int32) : List Cond := Cond.exactly (.string own idx) "java/lang/String" :: Cond.eq (.field (.string own idx) "java/lang/String" "coder" "B") (.int 0) :: zarrC (.field (.string own idx) "java/lang/String" "value" "[B") .byte vs
/-- of a constant of the enumeration -/
def zsrtC (nm : String) (o idx : Nat) : List Cond := [Cond.exactly (.static "FlagLayers$Sort" nm "LFlagLayers$Sort;") "FlagLayers$Sort", Cond.eq (.field (.static "FlagLayers$Sort" nm "LFlagLayers$Sort;") "java/lang/Enum" "ordinal" "I") (.int (Int32.ofNat o)), Cond.eq (.field (.static "FlagLayers$Sort" nm "LFlagLayers$Sort;") "FlagLayers$Sort" "spelling" "Ljava/lang/String;") (.string "FlagLayers$Sort" idx)]

def zStr : List ((String × Nat) × List Int32) := [(("FlagLayers$Sort", 174), []), (("java/util/Arrays", 337), [32, 62, 32]), (("FlagLayersModel", 330), [115, 101, 103, 109, 101, 110, 116, 32, 102, 108, 97, 103, 32, 108, 97, 121, 101, 114]), (("FlagLayersModel", 308), [102, 108, 97, 103, 32, 98, 111, 111, 108, 32, 110, 117, 109, 32, 99, 104, 111, 105, 99, 101, 32, 100, 101, 102, 97, 117, 108, 116, 32, 111, 102, 102, 32, 110, 101, 101, 100, 115, 32, 114, 117, 108, 101, 32, 108, 97, 121, 101, 114, 32, 111, 102, 32, 115, 101, 116, 32, 115, 101, 103, 109, 101, 110, 116, 32, 115, 112, 108, 105, 116, 32, 114, 111, 108, 108, 32, 101, 108, 115, 101, 32, 105, 110, 32, 110, 111, 116, 32, 111, 114, 32, 97, 110, 100, 32, 116, 114, 117, 101, 32, 102, 97, 108, 115, 101, 32, 105, 115, 32, 98, 101, 108, 111, 119, 32, 97, 98, 111, 118, 101, 32, 98, 101, 103, 105, 110, 115, 32, 101, 110, 100, 115, 32, 104, 111, 108, 100, 115, 32, 97, 109, 111, 110, 103, 32, 103, 105, 118, 101, 110]), (("FlagLayers$Sort", 265), [97, 110, 100]), (("FlagLayers$Sort", 262), [111, 114]), (("FlagLayers$Sort", 259), [110, 111, 116]), (("FlagLayersModel", 474), [116, 114, 117, 101, 32, 102, 97, 108, 115, 101, 32, 105, 110]), (("FlagLayersModel", 479), [105, 115, 32, 98, 101, 108, 111, 119, 32, 97, 98, 111, 118, 101, 32, 98, 101, 103, 105, 110, 115, 32, 101, 110, 100, 115, 32, 104, 111, 108, 100, 115, 32, 97, 109, 111, 110, 103, 32, 103, 105, 118, 101, 110]), (("FlagLayersModel", 368), [98, 111, 111, 108, 32, 110, 117, 109, 32, 99, 104, 111, 105, 99, 101]), (("FlagLayers$Sort", 223), [100, 101, 102, 97, 117, 108, 116]), (("FlagLayers$Sort", 226), [111, 102, 102]), (("FlagLayers$Sort", 229), [110, 101, 101, 100, 115]), (("FlagLayers$Sort", 232), [114, 117, 108, 101]), (("FlagLayers$Sort", 250), [114, 111, 108, 108]), (("FlagLayers$Sort", 247), [115, 112, 108, 105, 116]), (("FlagLayers$Sort", 253), [101, 108, 115, 101]), (("FlagLayers$Sort", 268), [116, 114, 117, 101]), (("FlagLayers$Sort", 271), [102, 97, 108, 115, 101]), (("FlagLayers$Sort", 238), [111, 102]), (("FlagLayers$Sort", 241), [115, 101, 116]), (("FlagLayers$Sort", 184), [123]), (("FlagLayers$Sort", 187), [125]), (("FlagLayers$Sort", 190), [40]), (("FlagLayers$Sort", 193), [41]), (("FlagLayers$Sort", 196), [59]), (("FlagLayers$Sort", 199), [44]), (("FlagLayers$Sort", 202), [58]), (("FlagLayers$Sort", 205), [61]), (("FlagLayers$Sort", 208), [45, 62]), (("FlagLayers$Sort", 211), [102, 108, 97, 103]), (("FlagLayers$Sort", 214), [98, 111, 111, 108]), (("FlagLayers$Sort", 217), [110, 117, 109]), (("FlagLayers$Sort", 220), [99, 104, 111, 105, 99, 101]), (("FlagLayers$Sort", 235), [108, 97, 121, 101, 114]), (("FlagLayers$Sort", 244), [115, 101, 103, 109, 101, 110, 116]), (("FlagLayers$Sort", 256), [105, 110]), (("FlagLayers$Sort", 274), [105, 115]), (("FlagLayers$Sort", 277), [98, 101, 108, 111, 119]), (("FlagLayers$Sort", 280), [97, 98, 111, 118, 101]), (("FlagLayers$Sort", 283), [98, 101, 103, 105, 110, 115]), (("FlagLayers$Sort", 286), [101, 110, 100, 115]), (("FlagLayers$Sort", 289), [104, 111, 108, 100, 115]), (("FlagLayers$Sort", 292), [97, 109, 111, 110, 103]), (("FlagLayers$Sort", 295), [103, 105, 118, 101, 110])]
def zSrt : List (String × Nat × Nat) := [("END", 174, 0), ("BROKEN", 174, 0), ("NAME", 174, 0), ("NUMBER", 174, 0), ("TEXT", 174, 0), ("OPEN_BRACE", 184, 21), ("CLOSE_BRACE", 187, 22), ("OPEN", 190, 23), ("CLOSE", 193, 24), ("SEMICOLON", 196, 25), ("COMMA", 199, 26), ("COLON", 202, 27), ("EQUALS", 205, 28), ("ARROW", 208, 29), ("FLAG", 211, 30), ("BOOL", 214, 31), ("NUM", 217, 32), ("CHOICE", 220, 33), ("DEFAULT", 223, 10), ("OFF", 226, 11), ("NEEDS", 229, 12), ("RULE", 232, 13), ("LAYER", 235, 34), ("OF", 238, 19), ("SET", 241, 20), ("SEGMENT", 244, 35), ("SPLIT", 247, 15), ("ROLL", 250, 14), ("ELSE", 253, 16), ("IN", 256, 36), ("NOT", 259, 6), ("OR", 262, 5), ("AND", 265, 4), ("TRUE", 268, 17), ("FALSE", 271, 18), ("IS", 274, 37), ("BELOW", 277, 38), ("ABOVE", 280, 39), ("BEGINS", 283, 40), ("ENDS", 286, 41), ("HOLDS", 289, 42), ("AMONG", 292, 43), ("GIVEN", 295, 44)]
def zSw : List Int32 := [0, 0, 0, 0, 0, 0, 0, 0, 0, 0, 0, 0, 0, 0, 2, 0, 0, 0, 0, 0, 0, 0, 3, 0, 0, 1, 0, 0, 0, 13, 14, 15, 16, 11, 12, 5, 6, 7, 8, 9, 10, 0, 4]
def zD1 : List Int32 := [48, 49, 50, 51, 52, 53, 54, 55, 56, 57, 48, 49, 50, 51, 52, 53, 54, 55, 56, 57, 48, 49, 50, 51, 52, 53, 54, 55, 56, 57, 48, 49, 50, 51, 52, 53, 54, 55, 56, 57, 48, 49, 50, 51, 52, 53, 54, 55, 56, 57, 48, 49, 50, 51, 52, 53, 54, 55, 56, 57, 48, 49, 50, 51, 52, 53, 54, 55, 56, 57, 48, 49, 50, 51, 52, 53, 54, 55, 56, 57, 48, 49, 50, 51, 52, 53, 54, 55, 56, 57, 48, 49, 50, 51, 52, 53, 54, 55, 56, 57]
def zD10 : List Int32 := [48, 48, 48, 48, 48, 48, 48, 48, 48, 48, 49, 49, 49, 49, 49, 49, 49, 49, 49, 49, 50, 50, 50, 50, 50, 50, 50, 50, 50, 50, 51, 51, 51, 51, 51, 51, 51, 51, 51, 51, 52, 52, 52, 52, 52, 52, 52, 52, 52, 52, 53, 53, 53, 53, 53, 53, 53, 53, 53, 53, 54, 54, 54, 54, 54, 54, 54, 54, 54, 54, 55, 55, 55, 55, 55, 55, 55, 55, 55, 55, 56, 56, 56, 56, 56, 56, 56, 56, 56, 56, 57, 57, 57, 57, 57, 57, 57, 57, 57, 57]
/-- the fixed objects behind the script -/
def zroL : List zO := [.inr (15, [.int 0, .ref 49]), .inr (15, [.int 1, .ref 49]), .inr (15, [.int 2, .ref 49]), .inr (15, [.int 3, .ref 49]), .inr (15, [.int 4, .ref 49]), .inr (15, [.int 5, .ref 91]), .inr (15, [.int 6, .ref 93]), .inr (15, [.int 7, .ref 95]), .inr (15, [.int 8, .ref 97]), .inr (15, [.int 9, .ref 99]), .inr (15, [.int 10, .ref 101]), .inr (15, [.int 11, .ref 103]), .inr (15, [.int 12, .ref 105]), .inr (15, [.int 13, .ref 107]), .inr (15, [.int 14, .ref 109]), .inr (15, [.int 15, .ref 111]), .inr (15, [.int 16, .ref 113]), .inr (15, [.int 17, .ref 115]), .inr (15, [.int 18, .ref 69]), .inr (15, [.int 19, .ref 71]), .inr (15, [.int 20, .ref 73]), .inr (15, [.int 21, .ref 75]), .inr (15, [.int 22, .ref 117]), .inr (15, [.int 23, .ref 87]), .inr (15, [.int 24, .ref 89]), .inr (15, [.int 25, .ref 119]), .inr (15, [.int 26, .ref 79]), .inr (15, [.int 27, .ref 77]), .inr (15, [.int 28, .ref 81]), .inr (15, [.int 29, .ref 121]), .inr (15, [.int 30, .ref 61]), .inr (15, [.int 31, .ref 59]), .inr (15, [.int 32, .ref 57]), .inr (15, [.int 33, .ref 83]), .inr (15, [.int 34, .ref 85]), .inr (15, [.int 35, .ref 123]), .inr (15, [.int 36, .ref 125]), .inr (15, [.int 37, .ref 127]), .inr (15, [.int 38, .ref 129]), .inr (15, [.int 39, .ref 131]), .inr (15, [.int 40, .ref 133]), .inr (15, [.int 41, .ref 135]), .inr (15, [.int 42, .ref 137]), .inl (20, [.ref 1, .ref 2, .ref 3, .ref 4, .ref 5, .ref 6, .ref 7, .ref 8, .ref 9, .ref 10, .ref 11, .ref 12, .ref 13, .ref 14, .ref 15, .ref 16, .ref 17, .ref 18, .ref 19, .ref 20, .ref 21, .ref 22, .ref 23, .ref 24, .ref 25, .ref 26, .ref 27, .ref 28, .ref 29, .ref 30, .ref 31, .ref 32, .ref 33, .ref 34, .ref 35, .ref 36, .ref 37, .ref 38, .ref 39, .ref 40, .ref 41, .ref 42, .ref 43]), .inl (0, [.int 0, .int 0, .int 0, .int 0, .int 0, .int 0, .int 0, .int 0, .int 0, .int 0, .int 0, .int 0, .int 0, .int 0, .int 2, .int 0, .int 0, .int 0, .int 0, .int 0, .int 0, .int 0, .int 3, .int 0, .int 0, .int 1, .int 0, .int 0, .int 0, .int 13, .int 14, .int 15, .int 16, .int 11, .int 12, .int 5, .int 6, .int 7, .int 8, .int 9, .int 10, .int 0, .int 4]), .inl (1, [.int 48, .int 49, .int 50, .int 51, .int 52, .int 53, .int 54, .int 55, .int 56, .int 57, .int 48, .int 49, .int 50, .int 51, .int 52, .int 53, .int 54, .int 55, .int 56, .int 57, .int 48, .int 49, .int 50, .int 51, .int 52, .int 53, .int 54, .int 55, .int 56, .int 57, .int 48, .int 49, .int 50, .int 51, .int 52, .int 53, .int 54, .int 55, .int 56, .int 57, .int 48, .int 49, .int 50, .int 51, .int 52, .int 53, .int 54, .int 55, .int 56, .int 57, .int 48, .int 49, .int 50, .int 51, .int 52, .int 53, .int 54, .int 55, .int 56, .int 57, .int 48, .int 49, .int 50, .int 51, .int 52, .int 53, .int 54, .int 55, .int 56, .int 57, .int 48, .int 49, .int 50, .int 51, .int 52, .int 53, .int 54, .int 55, .int 56, .int 57, .int 48, .int 49, .int 50, .int 51, .int 52, .int 53, .int 54, .int 55, .int 56, .int 57, .int 48, .int 49, .int 50, .int 51, .int 52, .int 53, .int 54, .int 55, .int 56, .int 57]), .inl (1, [.int 48, .int 48, .int 48, .int 48, .int 48, .int 48, .int 48, .int 48, .int 48, .int 48, .int 49, .int 49, .int 49, .int 49, .int 49, .int 49, .int 49, .int 49, .int 49, .int 49, .int 50, .int 50, .int 50, .int 50, .int 50, .int 50, .int 50, .int 50, .int 50, .int 50, .int 51, .int 51, .int 51, .int 51, .int 51, .int 51, .int 51, .int 51, .int 51, .int 51, .int 52, .int 52, .int 52, .int 52, .int 52, .int 52, .int 52, .int 52, .int 52, .int 52, .int 53, .int 53, .int 53, .int 53, .int 53, .int 53, .int 53, .int 53, .int 53, .int 53, .int 54, .int 54, .int 54, .int 54, .int 54, .int 54, .int 54, .int 54, .int 54, .int 54, .int 55, .int 55, .int 55, .int 55, .int 55, .int 55, .int 55, .int 55, .int 55, .int 55, .int 56, .int 56, .int 56, .int 56, .int 56, .int 56, .int 56, .int 56, .int 56, .int 56, .int 57, .int 57, .int 57, .int 57, .int 57, .int 57, .int 57, .int 57, .int 57, .int 57]), .inl (21, []), .inr (12, [.ref 50, .int 0]), .inl (1, []), .inr (12, [.ref 52, .int 0]), .inl (1, [.int 32, .int 62, .int 32]), .inr (12, [.ref 54, .int 0]), .inl (1, [.int 115, .int 101, .int 103, .int 109, .int 101, .int 110, .int 116, .int 32, .int 102, .int 108, .int 97, .int 103, .int 32, .int 108, .int 97, .int 121, .int 101, .int 114]), .inr (12, [.ref 56, .int 0]), .inl (1, [.int 102, .int 108, .int 97, .int 103, .int 32, .int 98, .int 111, .int 111, .int 108, .int 32, .int 110, .int 117, .int 109, .int 32, .int 99, .int 104, .int 111, .int 105, .int 99, .int 101, .int 32, .int 100, .int 101, .int 102, .int 97, .int 117, .int 108, .int 116, .int 32, .int 111, .int 102, .int 102, .int 32, .int 110, .int 101, .int 101, .int 100, .int 115, .int 32, .int 114, .int 117, .int 108, .int 101, .int 32, .int 108, .int 97, .int 121, .int 101, .int 114, .int 32, .int 111, .int 102, .int 32, .int 115, .int 101, .int 116, .int 32, .int 115, .int 101, .int 103, .int 109, .int 101, .int 110, .int 116, .int 32, .int 115, .int 112, .int 108, .int 105, .int 116, .int 32, .int 114, .int 111, .int 108, .int 108, .int 32, .int 101, .int 108, .int 115, .int 101, .int 32, .int 105, .int 110, .int 32, .int 110, .int 111, .int 116, .int 32, .int 111, .int 114, .int 32, .int 97, .int 110, .int 100, .int 32, .int 116, .int 114, .int 117, .int 101, .int 32, .int 102, .int 97, .int 108, .int 115, .int 101, .int 32, .int 105, .int 115, .int 32, .int 98, .int 101, .int 108, .int 111, .int 119, .int 32, .int 97, .int 98, .int 111, .int 118, .int 101, .int 32, .int 98, .int 101, .int 103, .int 105, .int 110, .int 115, .int 32, .int 101, .int 110, .int 100, .int 115, .int 32, .int 104, .int 111, .int 108, .int 100, .int 115, .int 32, .int 97, .int 109, .int 111, .int 110, .int 103, .int 32, .int 103, .int 105, .int 118, .int 101, .int 110]), .inr (12, [.ref 58, .int 0]), .inl (1, [.int 97, .int 110, .int 100]), .inr (12, [.ref 60, .int 0]), .inl (1, [.int 111, .int 114]), .inr (12, [.ref 62, .int 0]), .inl (1, [.int 110, .int 111, .int 116]), .inr (12, [.ref 64, .int 0]), .inl (1, [.int 116, .int 114, .int 117, .int 101, .int 32, .int 102, .int 97, .int 108, .int 115, .int 101, .int 32, .int 105, .int 110]), .inr (12, [.ref 66, .int 0]), .inl (1, [.int 105, .int 115, .int 32, .int 98, .int 101, .int 108, .int 111, .int 119, .int 32, .int 97, .int 98, .int 111, .int 118, .int 101, .int 32, .int 98, .int 101, .int 103, .int 105, .int 110, .int 115, .int 32, .int 101, .int 110, .int 100, .int 115, .int 32, .int 104, .int 111, .int 108, .int 100, .int 115, .int 32, .int 97, .int 109, .int 111, .int 110, .int 103, .int 32, .int 103, .int 105, .int 118, .int 101, .int 110]), .inr (12, [.ref 68, .int 0]), .inl (1, [.int 98, .int 111, .int 111, .int 108, .int 32, .int 110, .int 117, .int 109, .int 32, .int 99, .int 104, .int 111, .int 105, .int 99, .int 101]), .inr (12, [.ref 70, .int 0]), .inl (1, [.int 100, .int 101, .int 102, .int 97, .int 117, .int 108, .int 116]), .inr (12, [.ref 72, .int 0]), .inl (1, [.int 111, .int 102, .int 102]), .inr (12, [.ref 74, .int 0]), .inl (1, [.int 110, .int 101, .int 101, .int 100, .int 115]), .inr (12, [.ref 76, .int 0]), .inl (1, [.int 114, .int 117, .int 108, .int 101]), .inr (12, [.ref 78, .int 0]), .inl (1, [.int 114, .int 111, .int 108, .int 108]), .inr (12, [.ref 80, .int 0]), .inl (1, [.int 115, .int 112, .int 108, .int 105, .int 116]), .inr (12, [.ref 82, .int 0]), .inl (1, [.int 101, .int 108, .int 115, .int 101]), .inr (12, [.ref 84, .int 0]), .inl (1, [.int 116, .int 114, .int 117, .int 101]), .inr (12, [.ref 86, .int 0]), .inl (1, [.int 102, .int 97, .int 108, .int 115, .int 101]), .inr (12, [.ref 88, .int 0]), .inl (1, [.int 111, .int 102]), .inr (12, [.ref 90, .int 0]), .inl (1, [.int 115, .int 101, .int 116]), .inr (12, [.ref 92, .int 0]), .inl (1, [.int 123]), .inr (12, [.ref 94, .int 0]), .inl (1, [.int 125]), .inr (12, [.ref 96, .int 0]), .inl (1, [.int 40]), .inr (12, [.ref 98, .int 0]), .inl (1, [.int 41]), .inr (12, [.ref 100, .int 0]), .inl (1, [.int 59]), .inr (12, [.ref 102, .int 0]), .inl (1, [.int 44]), .inr (12, [.ref 104, .int 0]), .inl (1, [.int 58]), .inr (12, [.ref 106, .int 0]), .inl (1, [.int 61]), .inr (12, [.ref 108, .int 0]), .inl (1, [.int 45, .int 62]), .inr (12, [.ref 110, .int 0]), .inl (1, [.int 102, .int 108, .int 97, .int 103]), .inr (12, [.ref 112, .int 0]), .inl (1, [.int 98, .int 111, .int 111, .int 108]), .inr (12, [.ref 114, .int 0]), .inl (1, [.int 110, .int 117, .int 109]), .inr (12, [.ref 116, .int 0]), .inl (1, [.int 99, .int 104, .int 111, .int 105, .int 99, .int 101]), .inr (12, [.ref 118, .int 0]), .inl (1, [.int 108, .int 97, .int 121, .int 101, .int 114]), .inr (12, [.ref 120, .int 0]), .inl (1, [.int 115, .int 101, .int 103, .int 109, .int 101, .int 110, .int 116]), .inr (12, [.ref 122, .int 0]), .inl (1, [.int 105, .int 110]), .inr (12, [.ref 124, .int 0]), .inl (1, [.int 105, .int 115]), .inr (12, [.ref 126, .int 0]), .inl (1, [.int 98, .int 101, .int 108, .int 111, .int 119]), .inr (12, [.ref 128, .int 0]), .inl (1, [.int 97, .int 98, .int 111, .int 118, .int 101]), .inr (12, [.ref 130, .int 0]), .inl (1, [.int 98, .int 101, .int 103, .int 105, .int 110, .int 115]), .inr (12, [.ref 132, .int 0]), .inl (1, [.int 101, .int 110, .int 100, .int 115]), .inr (12, [.ref 134, .int 0]), .inl (1, [.int 104, .int 111, .int 108, .int 100, .int 115]), .inr (12, [.ref 136, .int 0]), .inl (1, [.int 97, .int 109, .int 111, .int 110, .int 103]), .inr (12, [.ref 138, .int 0]), .inl (1, [.int 103, .int 105, .int 118, .int 101, .int 110])]
def zroT : List Term := [(Term.static "FlagLayers$Sort" "END" "LFlagLayers$Sort;"), (Term.static "FlagLayers$Sort" "BROKEN" "LFlagLayers$Sort;"), (Term.static "FlagLayers$Sort" "NAME" "LFlagLayers$Sort;"), (Term.static "FlagLayers$Sort" "NUMBER" "LFlagLayers$Sort;"), (Term.static "FlagLayers$Sort" "TEXT" "LFlagLayers$Sort;"), (Term.static "FlagLayers$Sort" "OPEN_BRACE" "LFlagLayers$Sort;"), (Term.static "FlagLayers$Sort" "CLOSE_BRACE" "LFlagLayers$Sort;"), (Term.static "FlagLayers$Sort" "OPEN" "LFlagLayers$Sort;"), (Term.static "FlagLayers$Sort" "CLOSE" "LFlagLayers$Sort;"), (Term.static "FlagLayers$Sort" "SEMICOLON" "LFlagLayers$Sort;"), (Term.static "FlagLayers$Sort" "COMMA" "LFlagLayers$Sort;"), (Term.static "FlagLayers$Sort" "COLON" "LFlagLayers$Sort;"), (Term.static "FlagLayers$Sort" "EQUALS" "LFlagLayers$Sort;"), (Term.static "FlagLayers$Sort" "ARROW" "LFlagLayers$Sort;"), (Term.static "FlagLayers$Sort" "FLAG" "LFlagLayers$Sort;"), (Term.static "FlagLayers$Sort" "BOOL" "LFlagLayers$Sort;"), (Term.static "FlagLayers$Sort" "NUM" "LFlagLayers$Sort;"), (Term.static "FlagLayers$Sort" "CHOICE" "LFlagLayers$Sort;"), (Term.static "FlagLayers$Sort" "DEFAULT" "LFlagLayers$Sort;"), (Term.static "FlagLayers$Sort" "OFF" "LFlagLayers$Sort;"), (Term.static "FlagLayers$Sort" "NEEDS" "LFlagLayers$Sort;"), (Term.static "FlagLayers$Sort" "RULE" "LFlagLayers$Sort;"), (Term.static "FlagLayers$Sort" "LAYER" "LFlagLayers$Sort;"), (Term.static "FlagLayers$Sort" "OF" "LFlagLayers$Sort;"), (Term.static "FlagLayers$Sort" "SET" "LFlagLayers$Sort;"), (Term.static "FlagLayers$Sort" "SEGMENT" "LFlagLayers$Sort;"), (Term.static "FlagLayers$Sort" "SPLIT" "LFlagLayers$Sort;"), (Term.static "FlagLayers$Sort" "ROLL" "LFlagLayers$Sort;"), (Term.static "FlagLayers$Sort" "ELSE" "LFlagLayers$Sort;"), (Term.static "FlagLayers$Sort" "IN" "LFlagLayers$Sort;"), (Term.static "FlagLayers$Sort" "NOT" "LFlagLayers$Sort;"), (Term.static "FlagLayers$Sort" "OR" "LFlagLayers$Sort;"), (Term.static "FlagLayers$Sort" "AND" "LFlagLayers$Sort;"), (Term.static "FlagLayers$Sort" "TRUE" "LFlagLayers$Sort;"), (Term.static "FlagLayers$Sort" "FALSE" "LFlagLayers$Sort;"), (Term.static "FlagLayers$Sort" "IS" "LFlagLayers$Sort;"), (Term.static "FlagLayers$Sort" "BELOW" "LFlagLayers$Sort;"), (Term.static "FlagLayers$Sort" "ABOVE" "LFlagLayers$Sort;"), (Term.static "FlagLayers$Sort" "BEGINS" "LFlagLayers$Sort;"), (Term.static "FlagLayers$Sort" "ENDS" "LFlagLayers$Sort;"), (Term.static "FlagLayers$Sort" "HOLDS" "LFlagLayers$Sort;"), (Term.static "FlagLayers$Sort" "AMONG" "LFlagLayers$Sort;"), (Term.static "FlagLayers$Sort" "GIVEN" "LFlagLayers$Sort;"), (Term.static "FlagLayers$Sort" "ALL" "[LFlagLayers$Sort;"), (Term.static "FlagLayers$1" "$SwitchMap$FlagLayers$Sort" "[I"), (Term.static "java/lang/Integer" "DigitOnes" "[B"), (Term.static "java/lang/Integer" "DigitTens" "[B"), (Term.static "java/util/ArrayList" "DEFAULTCAPACITY_EMPTY_ELEMENTDATA" "[Ljava/lang/Object;"), (Term.string "FlagLayers$Sort" 174), (Term.field (Term.string "FlagLayers$Sort" 174) "java/lang/String" "value" "[B"), (Term.string "java/util/Arrays" 337), (Term.field (Term.string "java/util/Arrays" 337) "java/lang/String" "value" "[B"), (Term.string "FlagLayersModel" 330), (Term.field (Term.string "FlagLayersModel" 330) "java/lang/String" "value" "[B"), (Term.string "FlagLayersModel" 308), (Term.field (Term.string "FlagLayersModel" 308) "java/lang/String" "value" "[B"), (Term.string "FlagLayers$Sort" 265), (Term.field (Term.string "FlagLayers$Sort" 265) "java/lang/String" "value" "[B"), (Term.string "FlagLayers$Sort" 262), (Term.field (Term.string "FlagLayers$Sort" 262) "java/lang/String" "value" "[B"), (Term.string "FlagLayers$Sort" 259), (Term.field (Term.string "FlagLayers$Sort" 259) "java/lang/String" "value" "[B"), (Term.string "FlagLayersModel" 474), (Term.field (Term.string "FlagLayersModel" 474) "java/lang/String" "value" "[B"), (Term.string "FlagLayersModel" 479), (Term.field (Term.string "FlagLayersModel" 479) "java/lang/String" "value" "[B"), (Term.string "FlagLayersModel" 368), (Term.field (Term.string "FlagLayersModel" 368) "java/lang/String" "value" "[B"), (Term.string "FlagLayers$Sort" 223), (Term.field (Term.string "FlagLayers$Sort" 223) "java/lang/String" "value" "[B"), (Term.string "FlagLayers$Sort" 226), (Term.field (Term.string "FlagLayers$Sort" 226) "java/lang/String" "value" "[B"), (Term.string "FlagLayers$Sort" 229), (Term.field (Term.string "FlagLayers$Sort" 229) "java/lang/String" "value" "[B"), (Term.string "FlagLayers$Sort" 232), (Term.field (Term.string "FlagLayers$Sort" 232) "java/lang/String" "value" "[B"), (Term.string "FlagLayers$Sort" 250), (Term.field (Term.string "FlagLayers$Sort" 250) "java/lang/String" "value" "[B"), (Term.string "FlagLayers$Sort" 247), (Term.field (Term.string "FlagLayers$Sort" 247) "java/lang/String" "value" "[B"), (Term.string "FlagLayers$Sort" 253), (Term.field (Term.string "FlagLayers$Sort" 253) "java/lang/String" "value" "[B"), (Term.string "FlagLayers$Sort" 268), (Term.field (Term.string "FlagLayers$Sort" 268) "java/lang/String" "value" "[B"), (Term.string "FlagLayers$Sort" 271), (Term.field (Term.string "FlagLayers$Sort" 271) "java/lang/String" "value" "[B"), (Term.string "FlagLayers$Sort" 238), (Term.field (Term.string "FlagLayers$Sort" 238) "java/lang/String" "value" "[B"), (Term.string "FlagLayers$Sort" 241), (Term.field (Term.string "FlagLayers$Sort" 241) "java/lang/String" "value" "[B"), (Term.string "FlagLayers$Sort" 184), (Term.field (Term.string "FlagLayers$Sort" 184) "java/lang/String" "value" "[B"), (Term.string "FlagLayers$Sort" 187), (Term.field (Term.string "FlagLayers$Sort" 187) "java/lang/String" "value" "[B"), (Term.string "FlagLayers$Sort" 190), (Term.field (Term.string "FlagLayers$Sort" 190) "java/lang/String" "value" "[B"), (Term.string "FlagLayers$Sort" 193), (Term.field (Term.string "FlagLayers$Sort" 193) "java/lang/String" "value" "[B"), (Term.string "FlagLayers$Sort" 196), (Term.field (Term.string "FlagLayers$Sort" 196) "java/lang/String" "value" "[B"), (Term.string "FlagLayers$Sort" 199), (Term.field (Term.string "FlagLayers$Sort" 199) "java/lang/String" "value" "[B"), (Term.string "FlagLayers$Sort" 202), (Term.field (Term.string "FlagLayers$Sort" 202) "java/lang/String" "value" "[B"), (Term.string "FlagLayers$Sort" 205), (Term.field (Term.string "FlagLayers$Sort" 205) "java/lang/String" "value" "[B"), (Term.string "FlagLayers$Sort" 208), (Term.field (Term.string "FlagLayers$Sort" 208) "java/lang/String" "value" "[B"), (Term.string "FlagLayers$Sort" 211), (Term.field (Term.string "FlagLayers$Sort" 211) "java/lang/String" "value" "[B"), (Term.string "FlagLayers$Sort" 214), (Term.field (Term.string "FlagLayers$Sort" 214) "java/lang/String" "value" "[B"), (Term.string "FlagLayers$Sort" 217), (Term.field (Term.string "FlagLayers$Sort" 217) "java/lang/String" "value" "[B"), (Term.string "FlagLayers$Sort" 220), (Term.field (Term.string "FlagLayers$Sort" 220) "java/lang/String" "value" "[B"), (Term.string "FlagLayers$Sort" 235), (Term.field (Term.string "FlagLayers$Sort" 235) "java/lang/String" "value" "[B"), (Term.string "FlagLayers$Sort" 244), (Term.field (Term.string "FlagLayers$Sort" 244) "java/lang/String" "value" "[B"), (Term.string "FlagLayers$Sort" 256), (Term.field (Term.string "FlagLayers$Sort" 256) "java/lang/String" "value" "[B"), (Term.string "FlagLayers$Sort" 274), (Term.field (Term.string "FlagLayers$Sort" 274) "java/lang/String" "value" "[B"), (Term.string "FlagLayers$Sort" 277), (Term.field (Term.string "FlagLayers$Sort" 277) "java/lang/String" "value" "[B"), (Term.string "FlagLayers$Sort" 280), (Term.field (Term.string "FlagLayers$Sort" 280) "java/lang/String" "value" "[B"), (Term.string "FlagLayers$Sort" 283), (Term.field (Term.string "FlagLayers$Sort" 283) "java/lang/String" "value" "[B"), (Term.string "FlagLayers$Sort" 286), (Term.field (Term.string "FlagLayers$Sort" 286) "java/lang/String" "value" "[B"), (Term.string "FlagLayers$Sort" 289), (Term.field (Term.string "FlagLayers$Sort" 289) "java/lang/String" "value" "[B"), (Term.string "FlagLayers$Sort" 292), (Term.field (Term.string "FlagLayers$Sort" 292) "java/lang/String" "value" "[B"), (Term.string "FlagLayers$Sort" 295), (Term.field (Term.string "FlagLayers$Sort" 295) "java/lang/String" "value" "[B")]
set_option maxRecDepth 100000 in
theorem zsb_0 : (((flatC narrow_1_4).drop 79).take 4) = zstrC "FlagLayers$Sort" 174 [] := rfl
set_option maxRecDepth 100000 in
theorem zsb_1 : (((flatC narrow_1_2).drop 125).take 7) = zstrC "java/util/Arrays" 337 [32, 62, 32] := rfl
set_option maxRecDepth 100000 in
theorem zsb_2 : (((flatC narrow_1_3).drop 109).take 22) = zstrC "FlagLayersModel" 330 [115, 101, 103, 109, 101, 110, 116, 32, 102, 108, 97, 103, 32, 108, 97, 121, 101, 114] := rfl
set_option maxRecDepth 100000 in
theorem zsb_3 : (((flatC narrow_1_3).drop 131).take 154) = zstrC "FlagLayersModel" 308 [102, 108, 97, 103, 32, 98, 111, 111, 108, 32, 110, 117, 109, 32, 99, 104, 111, 105, 99, 101, 32, 100, 101, 102, 97, 117, 108, 116, 32, 111, 102, 102, 32, 110, 101, 101, 100, 115, 32, 114, 117, 108, 101, 32, 108, 97, 121, 101, 114, 32, 111, 102, 32, 115, 101, 116, 32, 115, 101, 103, 109, 101, 110, 116, 32, 115, 112, 108, 105, 116, 32, 114, 111, 108, 108, 32, 101, 108, 115, 101, 32, 105, 110, 32, 110, 111, 116, 32, 111, 114, 32, 97, 110, 100, 32, 116, 114, 117, 101, 32, 102, 97, 108, 115, 101, 32, 105, 115, 32, 98, 101, 108, 111, 119, 32, 97, 98, 111, 118, 101, 32, 98, 101, 103, 105, 110, 115, 32, 101, 110, 100, 115, 32, 104, 111, 108, 100, 115, 32, 97, 109, 111, 110, 103, 32, 103, 105, 118, 101, 110] := rfl
set_option maxRecDepth 100000 in
theorem zsb_4 : (((flatC narrow_1_4).drop 103).take 7) = zstrC "FlagLayers$Sort" 265 [97, 110, 100] := rfl
set_option maxRecDepth 100000 in
theorem zsb_5 : (((flatC narrow_1_4).drop 96).take 6) = zstrC "FlagLayers$Sort" 262 [111, 114] := rfl
set_option maxRecDepth 100000 in
theorem zsb_6 : (((flatC narrow_1_4).drop 116).take 7) = zstrC "FlagLayers$Sort" 259 [110, 111, 116] := rfl
set_option maxRecDepth 100000 in
theorem zsb_7 : (((flatC narrow_1_3).drop 292).take 17) = zstrC "FlagLayersModel" 474 [116, 114, 117, 101, 32, 102, 97, 108, 115, 101, 32, 105, 110] := rfl
set_option maxRecDepth 100000 in
theorem zsb_8 : (((flatC narrow_1_3).drop 309).take 48) = zstrC "FlagLayersModel" 479 [105, 115, 32, 98, 101, 108, 111, 119, 32, 97, 98, 111, 118, 101, 32, 98, 101, 103, 105, 110, 115, 32, 101, 110, 100, 115, 32, 104, 111, 108, 100, 115, 32, 97, 109, 111, 110, 103, 32, 103, 105, 118, 101, 110] := rfl
set_option maxRecDepth 100000 in
theorem zsb_9 : (((flatC narrow_1_3).drop 370).take 19) = zstrC "FlagLayersModel" 368 [98, 111, 111, 108, 32, 110, 117, 109, 32, 99, 104, 111, 105, 99, 101] := rfl
set_option maxRecDepth 100000 in
theorem zsb_10 : (((flatC narrow_1_4).drop 223).take 11) = zstrC "FlagLayers$Sort" 223 [100, 101, 102, 97, 117, 108, 116] := rfl
set_option maxRecDepth 100000 in
theorem zsb_11 : (((flatC narrow_1_4).drop 263).take 7) = zstrC "FlagLayers$Sort" 226 [111, 102, 102] := rfl
set_option maxRecDepth 100000 in
theorem zsb_12 : (((flatC narrow_1_4).drop 271).take 9) = zstrC "FlagLayers$Sort" 229 [110, 101, 101, 100, 115] := rfl
set_option maxRecDepth 100000 in
theorem zsb_13 : (((flatC narrow_1_4).drop 281).take 8) = zstrC "FlagLayers$Sort" 232 [114, 117, 108, 101] := rfl
set_option maxRecDepth 100000 in
theorem zsb_14 : (((flatC narrow_1_4).drop 245).take 8) = zstrC "FlagLayers$Sort" 250 [114, 111, 108, 108] := rfl
set_option maxRecDepth 100000 in
theorem zsb_15 : (((flatC narrow_1_4).drop 235).take 9) = zstrC "FlagLayers$Sort" 247 [115, 112, 108, 105, 116] := rfl
set_option maxRecDepth 100000 in
theorem zsb_16 : (((flatC narrow_1_4).drop 254).take 8) = zstrC "FlagLayers$Sort" 253 [101, 108, 115, 101] := rfl
set_option maxRecDepth 100000 in
theorem zsb_17 : (((flatC narrow_1_4).drop 129).take 8) = zstrC "FlagLayers$Sort" 268 [116, 114, 117, 101] := rfl
set_option maxRecDepth 100000 in
theorem zsb_18 : (((flatC narrow_1_4).drop 138).take 9) = zstrC "FlagLayers$Sort" 271 [102, 97, 108, 115, 101] := rfl
set_option maxRecDepth 100000 in
theorem zsb_19 : (((flatC narrow_1_4).drop 295).take 6) = zstrC "FlagLayers$Sort" 238 [111, 102] := rfl
set_option maxRecDepth 100000 in
theorem zsb_20 : (((flatC narrow_1_4).drop 302).take 7) = zstrC "FlagLayers$Sort" 241 [115, 101, 116] := rfl
set_option maxRecDepth 100000 in
theorem zsb_21 : (((flatC narrow_1_4).drop 218).take 5) = zstrC "FlagLayers$Sort" 184 [123] := rfl
set_option maxRecDepth 100000 in
theorem zsb_22 : (((flatC narrow_1_4).drop 290).take 5) = zstrC "FlagLayers$Sort" 187 [125] := rfl
set_option maxRecDepth 100000 in
theorem zsb_23 : (((flatC narrow_1_4).drop 111).take 5) = zstrC "FlagLayers$Sort" 190 [40] := rfl
set_option maxRecDepth 100000 in
theorem zsb_24 : (((flatC narrow_1_4).drop 124).take 5) = zstrC "FlagLayers$Sort" 193 [41] := rfl
set_option maxRecDepth 100000 in
theorem zsb_25 : (((flatC narrow_1_4).drop 183).take 5) = zstrC "FlagLayers$Sort" 196 [59] := rfl
set_option maxRecDepth 100000 in
theorem zsb_26 : (((flatC narrow_1_4).drop 163).take 5) = zstrC "FlagLayers$Sort" 199 [44] := rfl
set_option maxRecDepth 100000 in
theorem zsb_27 : (((flatC narrow_1_4).drop 196).take 5) = zstrC "FlagLayers$Sort" 202 [58] := rfl
set_option maxRecDepth 100000 in
theorem zsb_28 : (((flatC narrow_1_4).drop 91).take 5) = zstrC "FlagLayers$Sort" 205 [61] := rfl
set_option maxRecDepth 100000 in
theorem zsb_29 : (((flatC narrow_1_4).drop 85).take 6) = zstrC "FlagLayers$Sort" 208 [45, 62] := rfl
set_option maxRecDepth 100000 in
theorem zsb_30 : (((flatC narrow_1_4).drop 310).take 8) = zstrC "FlagLayers$Sort" 211 [102, 108, 97, 103] := rfl
set_option maxRecDepth 100000 in
theorem zsb_31 : (((flatC narrow_1_4).drop 188).take 8) = zstrC "FlagLayers$Sort" 214 [98, 111, 111, 108] := rfl
set_option maxRecDepth 100000 in
theorem zsb_32 : (((flatC narrow_1_4).drop 201).take 7) = zstrC "FlagLayers$Sort" 217 [110, 117, 109] := rfl
set_option maxRecDepth 100000 in
theorem zsb_33 : (((flatC narrow_1_4).drop 208).take 10) = zstrC "FlagLayers$Sort" 220 [99, 104, 111, 105, 99, 101] := rfl
set_option maxRecDepth 100000 in
theorem zsb_34 : (((flatC narrow_1_4).drop 318).take 9) = zstrC "FlagLayers$Sort" 235 [108, 97, 121, 101, 114] := rfl
set_option maxRecDepth 100000 in
theorem zsb_35 : (((flatC narrow_1_4).drop 327).take 11) = zstrC "FlagLayers$Sort" 244 [115, 101, 103, 109, 101, 110, 116] := rfl
set_option maxRecDepth 100000 in
theorem zsb_36 : (((flatC narrow_1_4).drop 148).take 6) = zstrC "FlagLayers$Sort" 256 [105, 110] := rfl
set_option maxRecDepth 100000 in
theorem zsb_37 : (((flatC narrow_1_4).drop 177).take 6) = zstrC "FlagLayers$Sort" 274 [105, 115] := rfl
set_option maxRecDepth 100000 in
theorem zsb_38 : (((flatC narrow_1_4).drop 338).take 9) = zstrC "FlagLayers$Sort" 277 [98, 101, 108, 111, 119] := rfl
set_option maxRecDepth 100000 in
theorem zsb_39 : (((flatC narrow_1_4).drop 347).take 9) = zstrC "FlagLayers$Sort" 280 [97, 98, 111, 118, 101] := rfl
set_option maxRecDepth 100000 in
theorem zsb_40 : (((flatC narrow_1_4).drop 356).take 10) = zstrC "FlagLayers$Sort" 283 [98, 101, 103, 105, 110, 115] := rfl
set_option maxRecDepth 100000 in
theorem zsb_41 : (((flatC narrow_1_4).drop 366).take 8) = zstrC "FlagLayers$Sort" 286 [101, 110, 100, 115] := rfl
set_option maxRecDepth 100000 in
theorem zsb_42 : (((flatC narrow_1_4).drop 374).take 9) = zstrC "FlagLayers$Sort" 289 [104, 111, 108, 100, 115] := rfl
set_option maxRecDepth 100000 in
theorem zsb_43 : (((flatC narrow_1_4).drop 154).take 9) = zstrC "FlagLayers$Sort" 292 [97, 109, 111, 110, 103] := rfl
set_option maxRecDepth 100000 in
theorem zsb_44 : (((flatC narrow_1_4).drop 168).take 9) = zstrC "FlagLayers$Sort" 295 [103, 105, 118, 101, 110] := rfl
set_option maxRecDepth 100000 in
theorem zeb_0 : (((flatC narrow_1_1).drop 6).take 3) = zsrtC "END" 0 174 := rfl
set_option maxRecDepth 100000 in
theorem zeb_1 : (((flatC narrow_1_1).drop 9).take 3) = zsrtC "BROKEN" 1 174 := rfl
set_option maxRecDepth 100000 in
theorem zeb_2 : (((flatC narrow_1_1).drop 65).take 3) = zsrtC "NAME" 2 174 := rfl
set_option maxRecDepth 100000 in
theorem zeb_3 : (((flatC narrow_1_1).drop 279).take 3) = zsrtC "NUMBER" 3 174 := rfl
set_option maxRecDepth 100000 in
theorem zeb_4 : (((flatC narrow_1_1).drop 68).take 3) = zsrtC "TEXT" 4 174 := rfl
set_option maxRecDepth 100000 in
theorem zeb_5 : (((flatC narrow_1_1).drop 385).take 3) = zsrtC "OPEN_BRACE" 5 184 := rfl
set_option maxRecDepth 100000 in
theorem zeb_6 : (((flatC narrow_1_2).drop 9).take 3) = zsrtC "CLOSE_BRACE" 6 187 := rfl
set_option maxRecDepth 100000 in
theorem zeb_7 : (((flatC narrow_1_1).drop 340).take 3) = zsrtC "OPEN" 7 190 := rfl
set_option maxRecDepth 100000 in
theorem zeb_8 : (((flatC narrow_1_1).drop 346).take 3) = zsrtC "CLOSE" 8 193 := rfl
set_option maxRecDepth 100000 in
theorem zeb_9 : (((flatC narrow_1_1).drop 370).take 3) = zsrtC "SEMICOLON" 9 196 := rfl
set_option maxRecDepth 100000 in
theorem zeb_10 : (((flatC narrow_1_1).drop 361).take 3) = zsrtC "COMMA" 10 199 := rfl
set_option maxRecDepth 100000 in
theorem zeb_11 : (((flatC narrow_1_1).drop 376).take 3) = zsrtC "COLON" 11 202 := rfl
set_option maxRecDepth 100000 in
theorem zeb_12 : (((flatC narrow_1_1).drop 331).take 3) = zsrtC "EQUALS" 12 205 := rfl
set_option maxRecDepth 100000 in
theorem zeb_13 : (((flatC narrow_1_1).drop 282).take 3) = zsrtC "ARROW" 13 208 := rfl
set_option maxRecDepth 100000 in
theorem zeb_14 : (((flatC narrow_1_2).drop 18).take 3) = zsrtC "FLAG" 14 211 := rfl
set_option maxRecDepth 100000 in
theorem zeb_15 : (((flatC narrow_1_1).drop 373).take 3) = zsrtC "BOOL" 15 214 := rfl
set_option maxRecDepth 100000 in
theorem zeb_16 : (((flatC narrow_1_1).drop 379).take 3) = zsrtC "NUM" 16 217 := rfl
set_option maxRecDepth 100000 in
theorem zeb_17 : (((flatC narrow_1_1).drop 382).take 3) = zsrtC "CHOICE" 17 220 := rfl
set_option maxRecDepth 100000 in
theorem zeb_18 : (((flatC narrow_1_1).drop 388).take 3) = zsrtC "DEFAULT" 18 223 := rfl
set_option maxRecDepth 100000 in
theorem zeb_19 : (((flatC narrow_1_2).drop 0).take 3) = zsrtC "OFF" 19 226 := rfl
set_option maxRecDepth 100000 in
theorem zeb_20 : (((flatC narrow_1_2).drop 3).take 3) = zsrtC "NEEDS" 20 229 := rfl
set_option maxRecDepth 100000 in
theorem zeb_21 : (((flatC narrow_1_2).drop 6).take 3) = zsrtC "RULE" 21 232 := rfl
set_option maxRecDepth 100000 in
theorem zeb_22 : (((flatC narrow_1_2).drop 21).take 3) = zsrtC "LAYER" 22 235 := rfl
set_option maxRecDepth 100000 in
theorem zeb_23 : (((flatC narrow_1_2).drop 12).take 3) = zsrtC "OF" 23 238 := rfl
set_option maxRecDepth 100000 in
theorem zeb_24 : (((flatC narrow_1_2).drop 15).take 3) = zsrtC "SET" 24 241 := rfl
set_option maxRecDepth 100000 in
theorem zeb_25 : (((flatC narrow_1_2).drop 24).take 3) = zsrtC "SEGMENT" 25 244 := rfl
set_option maxRecDepth 100000 in
theorem zeb_26 : (((flatC narrow_1_1).drop 391).take 3) = zsrtC "SPLIT" 26 247 := rfl
set_option maxRecDepth 100000 in
theorem zeb_27 : (((flatC narrow_1_1).drop 394).take 3) = zsrtC "ROLL" 27 250 := rfl
set_option maxRecDepth 100000 in
theorem zeb_28 : (((flatC narrow_1_1).drop 397).take 3) = zsrtC "ELSE" 28 253 := rfl
set_option maxRecDepth 100000 in
theorem zeb_29 : (((flatC narrow_1_1).drop 355).take 3) = zsrtC "IN" 29 256 := rfl
set_option maxRecDepth 100000 in
theorem zeb_30 : (((flatC narrow_1_1).drop 343).take 3) = zsrtC "NOT" 30 259 := rfl
set_option maxRecDepth 100000 in
theorem zeb_31 : (((flatC narrow_1_1).drop 334).take 3) = zsrtC "OR" 31 262 := rfl
set_option maxRecDepth 100000 in
theorem zeb_32 : (((flatC narrow_1_1).drop 337).take 3) = zsrtC "AND" 32 265 := rfl
set_option maxRecDepth 100000 in
theorem zeb_33 : (((flatC narrow_1_1).drop 349).take 3) = zsrtC "TRUE" 33 268 := rfl
set_option maxRecDepth 100000 in
theorem zeb_34 : (((flatC narrow_1_1).drop 352).take 3) = zsrtC "FALSE" 34 271 := rfl
set_option maxRecDepth 100000 in
theorem zeb_35 : (((flatC narrow_1_1).drop 367).take 3) = zsrtC "IS" 35 274 := rfl
set_option maxRecDepth 100000 in
theorem zeb_36 : (((flatC narrow_1_2).drop 27).take 3) = zsrtC "BELOW" 36 277 := rfl
set_option maxRecDepth 100000 in
theorem zeb_37 : (((flatC narrow_1_2).drop 30).take 3) = zsrtC "ABOVE" 37 280 := rfl
set_option maxRecDepth 100000 in
theorem zeb_38 : (((flatC narrow_1_2).drop 33).take 3) = zsrtC "BEGINS" 38 283 := rfl
set_option maxRecDepth 100000 in
theorem zeb_39 : (((flatC narrow_1_2).drop 36).take 3) = zsrtC "ENDS" 39 286 := rfl
set_option maxRecDepth 100000 in
theorem zeb_40 : (((flatC narrow_1_2).drop 39).take 3) = zsrtC "HOLDS" 40 289 := rfl
set_option maxRecDepth 100000 in
theorem zeb_41 : (((flatC narrow_1_1).drop 358).take 3) = zsrtC "AMONG" 41 292 := rfl
set_option maxRecDepth 100000 in
theorem zeb_42 : (((flatC narrow_1_1).drop 364).take 3) = zsrtC "GIVEN" 42 295 := rfl
set_option maxRecDepth 100000 in
theorem zwb_0 : (((flatC narrow_1_1).drop 286).take 45) = zarrC (Term.static "FlagLayers$1" "$SwitchMap$FlagLayers$Sort" "[I") .int zSw := rfl
set_option maxRecDepth 100000 in
theorem zwb_1 : (((flatC narrow_1_1).drop 72).take 102) = zarrC (Term.static "java/lang/Integer" "DigitOnes" "[B") .byte zD1 := rfl
set_option maxRecDepth 100000 in
theorem zwb_2 : (((flatC narrow_1_1).drop 175).take 102) = zarrC (Term.static "java/lang/Integer" "DigitTens" "[B") .byte zD10 := rfl
end ZRO
