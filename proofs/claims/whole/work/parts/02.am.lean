/-! A MACHINE OF OUR OWN OVER THE KIT'S ROWS: values, the world as two functions, the judgement AW (from this frame the method ends, and K holds then) -/
/-- a value: an int, a reference (its number; 0 is null), a long, nothing -/
abbrev AV : Type := Int ⊕ (Int ⊕ (Int ⊕ Unit))
abbrev vI (x : Int) : AV := .inl x
abbrev vR (r : Int) : AV := .inr (.inl r)
abbrev vL (y : Int) : AV := .inr (.inr (.inl y))
abbrev vU : AV := .inr (.inr (.inr ()))
/-- the world: what changes, references that stand, how many cells are made -/
abbrev HP : Type := (Int → Int → Int) × (Int → Int → Int) × Nat
/-- how a method ends: with a value, or by throwing an object of a class -/
abbrev Ou : Type := AV ⊕ String
/-- the base of our cells, the addresses of what stood there before, the classes and slots, the array classes, the script -/
abbrev Cfg : Type := Nat × (Int → Nat) × va_G × (Nat → ClassId) × Nat × (Nat → Int32)
/-- own class, bytes, how many locals, what it returns, its name, its table of handlers -/
abbrev MT : Type := String × ByteArray × Nat × Option FieldType × String × List (Nat × Nat × Nat × Nat)
def NN : Nat := 190
def shT : List (Nat × Nat) := [(19, 0), (17, 0), (0, 400), (18, 0), (5, 401), (0, 401), (0, 401), (12, 0), (0, 72), (0, 6), (0, 6), (0, 6), (0, 6), (0, 6), (0, 4), (0, 300), (12, 0), (0, 72), (0, 6), (0, 6), (0, 6), (0, 6), (0, 6), (0, 4), (0, 300), (12, 0), (0, 72), (0, 6), (0, 6), (0, 6), (0, 6), (0, 6), (0, 4), (0, 300), (13, 0), (0, 400), (0, 32), (13, 0), (0, 400), (0, 32), (13, 0), (0, 400), (0, 32), (4, 12), (12, 0), (0, 72), (0, 6), (0, 6), (0, 6), (0, 6), (0, 6), (0, 4), (0, 300), (12, 0), (0, 72), (0, 6), (0, 6), (0, 6), (0, 6), (0, 6), (0, 4), (0, 300), (12, 0), (0, 72), (0, 6), (0, 6), (0, 6), (0, 6), (0, 6), (0, 4), (0, 300), (12, 0), (0, 72), (0, 6), (0, 6), (0, 6), (0, 6), (0, 6), (0, 4), (0, 300), (12, 0), (0, 72), (0, 6), (0, 6), (0, 6), (0, 6), (0, 6), (0, 4), (0, 300), (12, 0), (0, 72), (0, 6), (0, 6), (0, 6), (0, 6), (0, 6), (0, 4), (0, 300), (12, 0), (0, 72), (0, 6), (0, 6), (0, 6), (0, 6), (0, 6), (0, 4), (0, 300), (12, 0), (0, 72), (0, 6), (0, 6), (0, 6), (0, 6), (0, 6), (0, 4), (0, 300), (12, 0), (0, 72), (0, 6), (0, 6), (0, 6), (0, 6), (0, 6), (0, 4), (0, 300), (12, 0), (0, 72), (0, 6), (0, 6), (0, 6), (0, 6), (0, 6), (0, 4), (0, 300), (12, 0), (0, 72), (0, 6), (0, 6), (0, 6), (0, 6), (0, 6), (0, 4), (0, 300), (12, 0), (0, 72), (0, 6), (0, 6), (0, 6), (0, 6), (0, 6), (0, 4), (0, 300), (16, 0), (10, 0), (0, 10), (0, 8), (10, 0), (10, 0), (10, 0), (11, 0), (14, 0), (0, 6), (0, 6), (0, 12), (0, 6), (0, 6), (15, 0), (0, 6), (0, 6), (0, 6), (20, 0), (0, 2184), (0, 1335), (0, 1335), (0, 486), (0, 5832), (1, 400), (0, 5), (0, 30), (0, 12), (0, 400), (0, 12), (0, 12), (0, 6), (0, 6), (0, 6), (0, 6), (2, 100), (0, 64), (3, 1)]
def shp (t : Int) : Nat × Nat := if t < 1 then (99, 0) else shT.getD (t - 1).toNat (99, 0)
/-- a field's kind (0 number, 1 a reference that stands, 2 one that changes) and slot -/
def flT (ci : Nat) : List (Nat × Int) := match ci with
  | 0 => [(1, 0), (1, 1), (0, 2), (0, 3), (0, 4), (0, 5), (0, 6), (0, 7)]
  | 1 => [(1, 0)]
  | 2 => [(1, 0), (1, 1), (1, 2), (1, 3), (1, 4), (1, 5), (1, 6), (1, 7), (0, 8), (0, 9), (0, 10), (0, 11), (0, 12), (0, 13), (0, 14)]
  | 3 => [(1, 0), (1, 1), (0, 2), (0, 3), (0, 4), (0, 5), (0, 6), (0, 7)]
  | 4 => [(1, 0), (1, 1), (1, 2), (1, 3), (1, 4), (1, 5), (0, 6), (0, 7), (0, 8)]
  | 5 => [(1, 0), (1, 1), (0, 2)]
  | 6 => [(1, 0), (1, 1), (1, 2), (1, 3)]
  | 7 => [(1, 0), (0, 1)]
  | 8 => [(1, 0), (1, 1), (1, 2), (0, 3), (2, 4), (0, 5), (0, 6)]
  | 9 => [(1, 0), (1, 1), (1, 2), (1, 3), (1, 4), (1, 5), (1, 6), (1, 7), (1, 8), (1, 9), (1, 10), (1, 11), (1, 12), (1, 13), (0, 14), (0, 15), (0, 16), (0, 17)]
  | 10 => [(0, 0), (1, 1), (1, 2), (1, 3), (1, 4), (1, 5), (0, 6), (0, 7), (1, 8), (0, 9), (0, 10), (0, 11), (0, 12), (0, 13), (0, 14), (1, 15), (0, 16), (0, 17), (1, 18), (0, 19), (0, 20), (0, 21), (1, 22), (1, 23), (0, 24), (1, 25), (1, 26), (0, 27), (1, 28), (1, 29), (1, 30), (1, 31), (1, 32), (1, 33)]
  | _ => []
def ad (Γ : Cfg) (r : Int) : Nat := if r < 1000 then Γ.1 + (r - 1).toNat else Γ.2.1 r
def rf (Γ : Cfg) (r : Int) : Option Nat := if r = 0 then none else some (ad Γ r)
def conc (Γ : Cfg) (v : AV) : Value := match v with
  | .inl x => .int (Int32.ofInt x)
  | .inr (.inl r) => va_rf (rf Γ r)
  | .inr (.inr (.inl y)) => .long (Int64.ofInt y)
  | .inr (.inr (.inr _)) => .null
def rv (Γ : Cfg) (v : AV) : Option Value := match v with
  | .inr (.inr (.inr _)) => none
  | v => some (conc Γ v)
/-- what a local's value says of its slot (longs are not kept in locals here) -/
def cv (Γ : Cfg) (v : AV) : Option Value := match v with
  | .inl x => some (.int (Int32.ofInt x))
  | .inr (.inl r) => some (va_rf (rf Γ r))
  | _ => none
def lvl (Γ : Cfg) : Nat → List AV → List (Nat × Value)
  | _, [] => []
  | k, v :: r => match cv Γ v with
    | none => lvl Γ (k + 1) r
    | some w => (k, w) :: lvl Γ (k + 1) r
/-- the number an int holds -/
def wr (x : Int) : Int := (Int32.ofInt x).toInt
def fvl (Γ : Cfg) (h : HP) (t : Int) (q : Nat × Int) : Value := match q.1 with
  | 0 => .int (Int32.ofInt (h.1 t q.2))
  | 1 => va_rf (rf Γ (h.2.1 t q.2))
  | _ => va_rf (rf Γ (h.1 t q.2))
def flv (Γ : Cfg) (h : HP) (t : Int) (ci : Nat) : List Value := (flT ci).map (fvl Γ h t)
def entS (Γ : Cfg) (h : HP) (t : Int) (sh : Nat × Nat) : va_E := match sh.1 with
  | 0 => .inl (Γ.2.2.2.1 0, sh.2, .inl (fun j => Int32.ofInt (h.1 t j)))
  | 1 => .inl (Γ.2.2.2.1 1, sh.2, .inl (fun j => Int32.ofInt (h.1 t j)))
  | 2 => .inl (Γ.2.2.2.1 2, sh.2, .inl (fun j => Int32.ofInt (h.1 t j)))
  | 3 => .inl (Γ.2.2.2.1 3, sh.2, .inr (.inl (fun j => Int64.ofInt (h.1 t j))))
  | 4 => .inl (Γ.2.2.2.1 4, sh.2, .inr (.inr (.inr (.inr (fun j => rf Γ (h.2.1 t j))))))
  | 5 => .inl (Γ.2.2.2.1 5, sh.2, .inr (.inr (.inr (.inr (fun j => rf Γ (h.1 t j))))))
  | k => .inr (k - 10, flv Γ h t (k - 10))
def ent (Γ : Cfg) (h : HP) (t : Int) : va_E := entS Γ h t (shp t)
def idOf (Γ : Cfg) (a : Nat) : Int := (a : Int) - Γ.1 + 1
def wl (Γ : Cfg) (h : HP) : va_W := va_pl (List.range' Γ.1 h.2.2) (fun a => ent Γ h (idOf Γ a))
def tyA : List FieldType := [.int, .byte, .boolean, .long, .object "HalfOaths$Hills", .object "HalfOaths$Sign"]
def tysG (Γ : Cfg) : List (ClassId × FieldType) := [(Γ.2.2.2.1 0, .int), (Γ.2.2.2.1 1, .byte), (Γ.2.2.2.1 2, .boolean), (Γ.2.2.2.1 3, .long), (Γ.2.2.2.1 4, .object "HalfOaths$Hills"), (Γ.2.2.2.1 5, .object "HalfOaths$Sign")]
abbrev own0 (Γ : Cfg) : Nat → Prop := fun q => Γ.1 ≤ q
def upd2 (f : Int → Int → Int) (a j v : Int) : Int → Int → Int := fun a' j' => if j' = j ∧ a' = a then v else f a' j'
/-- the words of the tables that a call hands on -/
def gw : List Cond := lw_tbl.filter goodWord
theorem gw_mem {w : Cond} (h : w ∈ lw_tbl) (g : goodWord w = true) : w ∈ gw := List.mem_filter.mpr ⟨h, g⟩
def isNest : Cond → Bool
  | .fieldLinkNest .. => true
  | .methodLinkNest .. => true
  | _ => false
def nw : List Cond := tables_1.filter isNest
theorem nw_mem {w : Cond} (h : w ∈ tables_1) (g : isNest w = true) : w ∈ nw := List.mem_filter.mpr ⟨h, g⟩
/-! what stood there before: the constants of the signs, texts, what throwing wants, the script -/
def sgName (i : Nat) : String := ["GIVE_WORD", "GO_WORD", "WED_WORD", "SUM_WORD", "IF_WORD", "NOT_WORD", "BY_WORD", "TO_WORD", "OPEN_WORD", "SHUT_WORD", "OATH", "BREATH", "GUARDS", "MODE", "NOISE", "HOUR", "EARS", "WEIGH", "EASE", "HEAR", "OR", "AND", "WHOLE", "TURNED_WORD", "EMPTY", "PERSON", "VERB", "IFS", "TOS", "COUNT", "NEXT_LINE", "LEFT", "RIGHT", "LESS", "MORE", "PLUS", "NUMBER", "TEXT_END", "WRONG"].getD i ""
def sgKind (i : Nat) : Int := if i < 10 then i else -1
def sgFact (i : Nat) : Int := [-1, -1, -1, 2, -1, -1, 4, -1, -1, -1, -1, -1, -1, -1, -1, -1, -1, -1, -1, -1, -1, -1, 7, 8, 9, 0, 1, 3, 5, 6, -1, -1, -1, -1, -1, -1, -1, -1, -1].getD i (-1)
/-- the text constants: the class, its entry, the text's bytes -/
def stT : List (String × Nat × String × List Int) := [("HalfOaths", 128, "the text of the hills is wrong", [116, 104, 101, 32, 116, 101, 120, 116, 32, 111, 102, 32, 116, 104, 101, 32, 104, 105, 108, 108, 115, 32, 105, 115, 32, 119, 114, 111, 110, 103]), ("HalfOaths", 138, "there are twelve texts", [116, 104, 101, 114, 101, 32, 97, 114, 101, 32, 116, 119, 101, 108, 118, 101, 32, 116, 101, 120, 116, 115]), ("HalfOaths", 144, "the text of the law is wrong", [116, 104, 101, 32, 116, 101, 120, 116, 32, 111, 102, 32, 116, 104, 101, 32, 108, 97, 119, 32, 105, 115, 32, 119, 114, 111, 110, 103]), ("HalfOaths", 234, "there is no such person", [116, 104, 101, 114, 101, 32, 105, 115, 32, 110, 111, 32, 115, 117, 99, 104, 32, 112, 101, 114, 115, 111, 110]), ("HalfOaths", 206, "a person has no such thing", [97, 32, 112, 101, 114, 115, 111, 110, 32, 104, 97, 115, 32, 110, 111, 32, 115, 117, 99, 104, 32, 116, 104, 105, 110, 103]), ("HalfOaths", 213, "so many words there are not", [115, 111, 32, 109, 97, 110, 121, 32, 119, 111, 114, 100, 115, 32, 116, 104, 101, 114, 101, 32, 97, 114, 101, 32, 110, 111, 116]), ("HalfOaths", 248, "a reading has no such thing", [97, 32, 114, 101, 97, 100, 105, 110, 103, 32, 104, 97, 115, 32, 110, 111, 32, 115, 117, 99, 104, 32, 116, 104, 105, 110, 103]), ("HalfOaths", 237, "there is no such distance", [116, 104, 101, 114, 101, 32, 105, 115, 32, 110, 111, 32, 115, 117, 99, 104, 32, 100, 105, 115, 116, 97, 110, 99, 101]), ("HalfOaths", 239, "the number is none", [116, 104, 101, 32, 110, 117, 109, 98, 101, 114, 32, 105, 115, 32, 110, 111, 110, 101]), ("HalfOaths", 243, "it cannot be", [105, 116, 32, 99, 97, 110, 110, 111, 116, 32, 98, 101]), ("HalfOaths", 246, "both are one", [98, 111, 116, 104, 32, 97, 114, 101, 32, 111, 110, 101]), ("HalfOaths", 359, "the tape tells no rows", [116, 104, 101, 32, 116, 97, 112, 101, 32, 116, 101, 108, 108, 115, 32, 110, 111, 32, 114, 111, 119, 115]), ("HalfOaths", 369, "the tape tells no coughs, or so many breaths there are not", [116, 104, 101, 32, 116, 97, 112, 101, 32, 116, 101, 108, 108, 115, 32, 110, 111, 32, 99, 111, 117, 103, 104, 115, 44, 32, 111, 114, 32, 115, 111, 32, 109, 97, 110, 121, 32, 98, 114, 101, 97, 116, 104, 115, 32, 116, 104, 101, 114, 101, 32, 97, 114, 101, 32, 110, 111, 116]), ("HalfOaths", 385, "there is no such most", [116, 104, 101, 114, 101, 32, 105, 115, 32, 110, 111, 32, 115, 117, 99, 104, 32, 109, 111, 115, 116]), ("HalfOaths", 387, "nobody is so", [110, 111, 98, 111, 100, 121, 32, 105, 115, 32, 115, 111]), ("HalfOaths", 401, "a row has no such thing", [97, 32, 114, 111, 119, 32, 104, 97, 115, 32, 110, 111, 32, 115, 117, 99, 104, 32, 116, 104, 105, 110, 103]), ("HalfOathsModel", 185, "oath", [111, 97, 116, 104]), ("HalfOathsModel", 138, "give", [103, 105, 118, 101]), ("HalfOathsModel", 140, "go", [103, 111]), ("HalfOathsModel", 142, "wed", [119, 101, 100]), ("HalfOathsModel", 144, "sum", [115, 117, 109]), ("HalfOathsModel", 146, "if", [105, 102]), ("HalfOathsModel", 148, "not", [110, 111, 116]), ("HalfOathsModel", 150, "by", [98, 121]), ("HalfOathsModel", 152, "to", [116, 111]), ("HalfOathsModel", 154, "open", [111, 112, 101, 110]), ("HalfOathsModel", 156, "shut", [115, 104, 117, 116]), ("HalfOathsModel", 174, "breath", [98, 114, 101, 97, 116, 104]), ("HalfOathsModel", 180, "guards", [103, 117, 97, 114, 100, 115]), ("HalfOathsModel", 191, "mode", [109, 111, 100, 101]), ("HalfOathsModel", 196, "noise", [110, 111, 105, 115, 101]), ("HalfOathsModel", 198, "hour", [104, 111, 117, 114]), ("HalfOathsModel", 200, "ears", [101, 97, 114, 115]), ("HalfOathsModel", 256, "weigh", [119, 101, 105, 103, 104]), ("HalfOathsModel", 258, "ease", [101, 97, 115, 101]), ("HalfOathsModel", 260, "hear", [104, 101, 97, 114]), ("HalfOathsModel", 228, "whole", [119, 104, 111, 108, 101]), ("HalfOathsModel", 230, "turned", [116, 117, 114, 110, 101, 100]), ("HalfOathsModel", 232, "empty", [101, 109, 112, 116, 121]), ("HalfOathsModel", 205, "person", [112, 101, 114, 115, 111, 110]), ("HalfOathsModel", 207, "verb", [118, 101, 114, 98]), ("HalfOathsModel", 209, "ifs", [105, 102, 115]), ("HalfOathsModel", 211, "tos", [116, 111, 115]), ("HalfOathsModel", 213, "count", [99, 111, 117, 110, 116]), ("HalfOathsModel", 249, "and", [97, 110, 100]), ("HalfOathsModel", 254, "or", [111, 114]), ("HalfOaths$Sign", 265, "", []), ("HalfOaths$Sign", 187, "oath", [111, 97, 116, 104]), ("HalfOaths$Sign", 190, "breath", [98, 114, 101, 97, 116, 104]), ("HalfOaths$Sign", 193, "guards", [103, 117, 97, 114, 100, 115]), ("HalfOaths$Sign", 196, "mode", [109, 111, 100, 101]), ("HalfOaths$Sign", 199, "noise", [110, 111, 105, 115, 101]), ("HalfOaths$Sign", 202, "hour", [104, 111, 117, 114]), ("HalfOaths$Sign", 205, "ears", [101, 97, 114, 115]), ("HalfOaths$Sign", 247, ";", [59]), ("HalfOaths$Sign", 208, "weigh", [119, 101, 105, 103, 104]), ("HalfOaths$Sign", 211, "ease", [101, 97, 115, 101]), ("HalfOaths$Sign", 214, "hear", [104, 101, 97, 114]), ("HalfOaths$Sign", 169, "if", [105, 102]), ("HalfOaths$Sign", 172, "not", [110, 111, 116]), ("HalfOaths$Sign", 250, "(", [40]), ("HalfOaths$Sign", 253, ")", [41]), ("HalfOaths$Sign", 262, "+", [43]), ("HalfOaths$Sign", 256, "<", [60]), ("HalfOaths$Sign", 259, ">", [62]), ("HalfOaths$Sign", 220, "and", [97, 110, 100]), ("HalfOaths$Sign", 217, "or", [111, 114]), ("HalfOaths$Sign", 154, "give", [103, 105, 118, 101]), ("HalfOaths$Sign", 160, "go", [103, 111]), ("HalfOaths$Sign", 163, "wed", [119, 101, 100]), ("HalfOaths$Sign", 166, "sum", [115, 117, 109]), ("HalfOaths$Sign", 175, "by", [98, 121]), ("HalfOaths$Sign", 178, "to", [116, 111]), ("HalfOaths$Sign", 181, "open", [111, 112, 101, 110]), ("HalfOaths$Sign", 184, "shut", [115, 104, 117, 116]), ("HalfOaths$Sign", 223, "whole", [119, 104, 111, 108, 101]), ("HalfOaths$Sign", 226, "turned", [116, 117, 114, 110, 101, 100]), ("HalfOaths$Sign", 229, "empty", [101, 109, 112, 116, 121]), ("HalfOaths$Sign", 232, "person", [112, 101, 114, 115, 111, 110]), ("HalfOaths$Sign", 235, "verb", [118, 101, 114, 98]), ("HalfOaths$Sign", 238, "ifs", [105, 102, 115]), ("HalfOaths$Sign", 241, "tos", [116, 111, 115]), ("HalfOaths$Sign", 244, "count", [99, 111, 117, 110, 116])]
def sgStr (i : Nat) : Nat := [67, 68, 69, 70, 58, 59, 71, 72, 73, 74, 47, 48, 49, 50, 51, 52, 53, 55, 56, 57, 66, 65, 75, 76, 77, 78, 79, 80, 81, 82, 54, 60, 61, 63, 64, 62, 46, 46, 46].getD i 0
def stOwn (i : Nat) : String := (stT.getD i ("", 0, "", [])).1
def stIdx (i : Nat) : Nat := (stT.getD i ("", 0, "", [])).2.1
def stTxt (i : Nat) : String := (stT.getD i ("", 0, "", [])).2.2.1
def stByt (i : Nat) : List Int := (stT.getD i ("", 0, "", [])).2.2.2
def nST : Nat := 83
def exN : List String := ["java/lang/RuntimeException", "java/lang/Exception"]
abbrev eIA : String := "java/lang/IllegalArgumentException"
abbrev eUO : String := "java/lang/UnsupportedOperationException"
abbrev eNS : String := "java/util/NoSuchElementException"
abbrev eIO : String := "java/lang/IndexOutOfBoundsException"
abbrev eIS : String := "java/lang/IllegalStateException"
/-- the words of throwing that a call doesn't hand on by itself -/
def xwOf (ic : Nat) (E : String) : List Cond := (vx_atS RX11 ic E exN).filter (fun w => !goodWord w)
def xw : List Cond := xwOf 130 eIA ++ (xwOf 140 eUO ++ (xwOf 208 eNS ++ (xwOf 236 eIO ++ xwOf 245 eIS)))
def isXw : Cond → Bool
  | .declares _ => true
  | .castable .. => true
  | _ => false
theorem xw_is : xw.all isXw = true := by decide +kernel
def exL : List String := [eIA, eUO, eNS, eIO, eIS]
/-- classes of which neither is the other's -/
def ncT : List (String × String) := exL.flatMap fun a => (exL.filter fun b => decide (a ≠ b)).map fun b => (a, b)
def StG (Γ : Cfg) (U : State) (H : Heap) : Prop :=
  (∀ i : Nat, i < 39 → va_Z RX8 (sgName i) "LHalfOaths$Sign;" (.ref (Γ.2.1 (1000 + i))) (own0 Γ) U H ∧ va_O RX8 (Γ.2.1 (1000 + i)) (own0 Γ) U H ∧ va_OF RX8 "kind" "I" (.int (Int32.ofInt (sgKind i))) (Γ.2.1 (1000 + i)) (own0 Γ) U H ∧ va_OF RX8 "fact" "I" (.int (Int32.ofInt (sgFact i))) (Γ.2.1 (1000 + i)) (own0 Γ) U H ∧ va_OF RX8 "spelling" "Ljava/lang/String;" (.ref (Γ.2.1 (2000 + sgStr i))) (Γ.2.1 (1000 + i)) (own0 Γ) U H) ∧
  (∀ i j : Nat, i < 39 → j < 39 → Γ.2.1 (1000 + i) = Γ.2.1 (1000 + j) → i = j) ∧
  va_Z RX11 "SIGNS" "[LHalfOaths$Sign;" (.ref (Γ.2.1 1040)) (own0 Γ) U H ∧ va_T (.object RX8) (Γ.2.1 1040) 39 (fun j => .ref (Γ.2.1 (1000 + j))) (own0 Γ) U H
def StT (Γ : Cfg) (U : State) (H : Heap) : Prop :=
  (∀ i : Nat, i < nST → vk_R (stOwn i) (stIdx i) (stTxt i) (Γ.2.1 (2000 + i)) U ∧ va_O "java/lang/String" (Γ.2.1 (2000 + i)) (own0 Γ) U H ∧ va_OF "java/lang/String" "coder" "B" (.int 0) (Γ.2.1 (2000 + i)) (own0 Γ) U H ∧ va_OF "java/lang/String" "value" "[B" (.ref (Γ.2.1 (3000 + i))) (Γ.2.1 (2000 + i)) (own0 Γ) U H ∧ va_T .byte (Γ.2.1 (3000 + i)) (stByt i).length (fun j => .int (Int32.ofInt ((stByt i).getD j 0))) (own0 Γ) U H) ∧
  va_Z "java/lang/String" "COMPACT_STRINGS" "Z" (.int 1) (own0 Γ) U H ∧ (va_Z "jdk/internal/util/Preconditions" "SIOOBE_FORMATTER" "Ljava/util/function/BiFunction;" .null (own0 Γ) U H ∨ va_Z "jdk/internal/util/Preconditions" "SIOOBE_FORMATTER" "Ljava/util/function/BiFunction;" (.ref (Γ.2.1 5001)) (own0 Γ) U H) ∧ (va_AO "HalfOaths$Hills" U ∧ va_AO "HalfOaths$Sign" U) ∧ ∀ q ∈ ncT, va_Nc q.1 q.2 U
def StX (Γ : Cfg) (U : State) (H : Heap) : Prop := vx_Zq Bundle.tN "UNASSIGNED_STACK" Bundle.steD (own0 Γ) U H ∧ vx_Zq Bundle.tN "SUPPRESSED_SENTINEL" Bundle.listD (own0 Γ) U H
def StV (Γ : Cfg) (U : State) (H : Heap) : Prop := va_X (Γ.2.1 4000) Γ.2.2.2.2.1 Γ.2.2.2.2.2 U H ∧ Γ.2.1 4000 < H.size ∧ Γ.2.1 4000 < Γ.1
def StS (Γ : Cfg) (U : State) (H : Heap) : Prop := va_K Γ.2.2.1 vwCl (tysG Γ) U ∧ ((∀ w ∈ nw, va_Nw w U) ∧ ∀ w ∈ xw, va_Nw w U) ∧ StG Γ U H ∧ StT Γ U H ∧ StX Γ U H ∧ StV Γ U H ∧ Γ.1 ≤ H.size
theorem StS.kept {Γ : Cfg} {U : State} {H H1 : Heap} (h : StS Γ U H) (hz : H.size ≤ H1.size) (hq : ∀ a : Nat, a < H.size → ¬ own0 Γ a → H1[a]? = H[a]?) : StS Γ U H1 := by
  obtain ⟨h1, h2, ⟨g1, g2, g3, g4⟩, ⟨t1, t2, t3, t4, t5⟩, ⟨x1, x2⟩, ⟨v1, v2, v3⟩, hb⟩ := h
  refine ⟨h1, h2, ⟨fun i hi => ?_, g2, g3.kept hq, g4.kept hq⟩, ⟨fun i hi => ?_, t2.kept hq, t3.elim (fun z => Or.inl (z.kept hq)) (fun z => Or.inr (z.kept hq)), t4, t5⟩, ⟨x1.kept hq, x2.kept hq⟩, ⟨?_, Nat.lt_of_lt_of_le v2 hz, v3⟩, Nat.le_trans hb hz⟩
  · obtain ⟨q1, q2, q3, q4, q5⟩ := g1 i hi
    exact ⟨q1.kept hq, q2.kept hq, q3.kept hq, q4.kept hq, q5.kept hq⟩
  · obtain ⟨q1, q2, q3, q4, q5⟩ := t1 i hi
    exact ⟨q1, q2.kept hq, q3.kept hq, q4.kept hq, q5.kept hq⟩
  · obtain ⟨scr, a1, a2, a3, a4, a5⟩ := v1
    exact ⟨scr, by rw [hq _ v2 (Nat.not_le.mpr v3)]; exact a1, a2, a3, a4, a5⟩
theorem StS.warm {Γ : Cfg} {s U : State} {H : Heap} (hW : s.WarmedH U.vm) (h : StS Γ s H) : StS Γ U H := by
  obtain ⟨h1, h2, ⟨g1, g2, g3, g4⟩, ⟨t1, t2, t3, t4, t5⟩, ⟨x1, x2⟩, ⟨v1, v2, v3⟩, hb⟩ := h
  have hvm := hW.alike
  refine ⟨va_K.moved hvm h1, ⟨fun w hw => ?_, fun w hw => ?_⟩, ⟨fun i hi => ?_, g2, va_Z.moved hvm g3, va_T.moved hvm g4⟩, ⟨fun i hi => ?_, va_Z.moved hvm t2, t3.elim (fun z => Or.inl (va_Z.moved hvm z)) (fun z => Or.inr (va_Z.moved hvm z)), ⟨va_AO.moved hvm t4.1, va_AO.moved hvm t4.2⟩, fun q hq => va_Nc.moved hvm (t5 q hq)⟩, ⟨vx_Zq.moved hvm x1, vx_Zq.moved hvm x2⟩, ⟨?_, v2, v3⟩, hb⟩
  · have hn := (List.mem_filter.mp hw).2
    have h3 := h2.1 w hw
    cases w with
    | fieldLinkNest a i b n d h => exact va_Nw.warmF hW h3
    | methodLinkNest a i x h => exact va_Nw.warmM hW h3
    | _ => simp [isNest] at hn
  · have hn := List.all_eq_true.mp xw_is w hw
    have h3 := h2.2 w hw
    cases w with
    | declares x => exact va_Nw.warmD hW h3
    | castable a b => exact va_Nw.warmC hW h3
    | _ => simp [isXw] at hn
  · obtain ⟨q1, q2, q3, q4, q5⟩ := g1 i hi
    exact ⟨va_Z.moved hvm q1, va_O.moved hvm q2, va_OF.moved hvm q3, va_OF.moved hvm q4, va_OF.moved hvm q5⟩
  · obtain ⟨q1, q2, q3, q4, q5⟩ := t1 i hi
    exact ⟨vk_R.warm hW q1, va_O.moved hvm q2, va_OF.moved hvm q3, va_OF.moved hvm q4, va_T.moved hvm q5⟩
  · obtain ⟨scr, a1, a2, a3, a4, a5⟩ := v1
    exact ⟨scr, a1, State.isArrayOf_alike hvm a2, a3, a4, a5⟩
theorem StS.same {Γ : Cfg} {s U : State} {H : Heap} (hvm : U.vm = s.vm) (h : StS Γ s H) : StS Γ U H := StS.warm (by rw [hvm]; exact State.WarmedH.refl s) h
/-- how many cells there are: in the making just ours behind the base, later at least ours -/
def szOK (Γ : Cfg) (h : HP) (H : Heap) : Prop := (h.2.2 < NN ∧ H.size = Γ.1 + h.2.2) ∨ (h.2.2 = NN ∧ Γ.1 + NN ≤ H.size)
def Rep (Γ : Cfg) (h : HP) (H : Heap) : Prop := va_P Γ.2.2.1 vwCl (wl Γ h) H ∧ szOK Γ h H
def QcK (Γ : Cfg) (K : Ou → HP → Prop) : Array Value → State → Outcome → State → Prop := fun _ _ o t => ∃ (v : AV) (h' : HP), o = .returned (rv Γ v) ∧ K (.inl v) h' ∧ Rep Γ h' t.heap
def XcK (Γ : Cfg) (K : Ou → HP → Prop) : String → State → State → Prop := fun E _ t => ∃ h' : HP, K (.inr E) h' ∧ Rep Γ h' t.heap
/-- what a frame of method M stands on -/
def Ctx (Γ : Cfg) (l : Launch) (M : MT) (d b : Nat) (p : Program) (R : Room) (s : State) (m : MethodId) (args : Array Value) (meth : Method) (c : Code) (H : Heap) (locs : List Loc) (cells slots mc ms : Nat) (h : HP) : Prop :=
  p.tables.exec = Jvm.exec ∧ c.code = M.2.1 ∧ c.maxLocals = M.2.2.1 ∧ s.vm.findClass M.1 = some m.cls ∧ (∀ w ∈ gw, w.before args s = true) ∧ meth.locks = false ∧ (meth.sig.returnType = M.2.2.2.1 ∧ meth.name = M.2.2.2.2.1) ∧ l.stackTraces = false ∧
  StS Γ s s.heap ∧ va_S (own0 Γ) s.heap H locs ∧ Rep Γ h H ∧ d + 8 ≤ R.frames ∧ 60 * d + 200 ≤ R.locals ∧ cells + b ≤ mc ∧ slots + 16 * b ≤ ms ∧ mc ≤ R.cells ∧ ms ≤ R.slots
/-- from this frame on the method ends, and K holds of its end and the world then; b: how much it may make (a cell and 16 slots each), d: how deep it may call -/
def AW (Γ : Cfg) (l : Launch) (M : MT) (d b : Nat) (pc : Nat) (L S : List AV) (h : HP) (K : Ou → HP → Prop) : Prop :=
  ∀ (p : Program) (e : Env) (R : Room) (s : State) (m : MethodId) (args : Array Value) (below : List Frame) (meth : Method) (c : Code) (H : Heap) (locs : List Loc) (cells slots mc ms : Nat) (ls : Array Slot),
    Ctx Γ l M d b p R s m args meth c H locs cells slots mc ms h → lv_has ls M.2.2.1 (lvl Γ 0 L) → c.exceptionTable.toList = tableOf M.2.2.2.2.2 →
    W p l e R s m args below meth c H locs cells slots (vx_MQ below (QcK Γ K) (XcK Γ K) args s mc ms (own0 Γ)) (F0 m pc ls (S.map (conc Γ)))
theorem wl_D (Γ : Cfg) (h : HP) : va_D (own0 Γ) (wl Γ h) := by
  refine ⟨fun i j p q hi hj e => ?_, fun k q hk => ?_⟩
  · simp only [wl, va_pl, List.getElem?_map, Option.map_eq_some_iff] at hi hj
    obtain ⟨a, ha, rfl⟩ := hi
    obtain ⟨b, hb, rfl⟩ := hj
    have e' : a = b := e
    subst e'
    have h1 := (List.getElem?_eq_some_iff.mp ha)
    have h2 := (List.getElem?_eq_some_iff.mp hb)
    obtain ⟨l1, e1⟩ := h1
    obtain ⟨l2, e2⟩ := h2
    simp at e1 e2
    omega
  · obtain ⟨a, ha, rfl⟩ := List.mem_map.mp (List.mem_of_getElem? hk)
    exact (List.mem_range'_1.mp ha).1
theorem lvl_get {Γ : Cfg} : ∀ (L : List AV) (k i : Nat) (v : AV) (w : Value), L[i]? = some v → cv Γ v = some w → (k + i, w) ∈ lvl Γ k L
  | [], k, i, v, w, h, _ => by simp at h
  | x :: r, k, 0, v, w, h, hw => by
    simp at h
    subst h
    simp [lvl, hw]
  | x :: r, k, i + 1, v, w, h, hw => by
    have h1 := lvl_get r (k + 1) i v w (by simpa using h) hw
    have e : k + 1 + i = k + (i + 1) := by omega
    rw [e] at h1
    unfold lvl
    cases cv Γ x with
    | none => exact h1
    | some y => exact List.mem_cons_of_mem _ h1
theorem lvl_of {Γ : Cfg} : ∀ (L : List AV) (k : Nat) (q : Nat × Value), q ∈ lvl Γ k L → ∃ (i : Nat) (v : AV), q.1 = k + i ∧ L[i]? = some v ∧ cv Γ v = some q.2
  | [], k, q, h => by simp [lvl] at h
  | x :: r, k, q, h => by
    unfold lvl at h
    have step : q ∈ lvl Γ (k + 1) r → ∃ (i : Nat) (v : AV), q.1 = k + i ∧ (x :: r)[i]? = some v ∧ cv Γ v = some q.2 := fun h => by
      obtain ⟨i, v, h1, h2, h3⟩ := lvl_of r (k + 1) q h
      exact ⟨i + 1, v, by omega, by simpa using h2, h3⟩
    cases hx : cv Γ x with
    | none =>
      rw [hx] at h
      exact step h
    | some y =>
      rw [hx] at h
      rcases List.mem_cons.mp h with rfl | h
      · exact ⟨0, x, rfl, rfl, hx⟩
      · exact step h
theorem lvl_at {Γ : Cfg} {ls : Array Slot} {n : Nat} {L : List AV} (h : lv_has ls n (lvl Γ 0 L)) {i : Nat} {v : AV} {w : Value} (hv : L[i]? = some v) (hw : cv Γ v = some w) : ls[i]? = some (.val w) := by
  have := h.2.2 _ (lvl_get L 0 i v w hv hw)
  simpa using this
theorem cv_cat {Γ : Cfg} {v : AV} {w : Value} (h : cv Γ v = some w) : w.category = 1 := by
  obtain x | x | x | x := v
  · cases h; rfl
  · cases h
    show (va_rf _).category = 1
    cases rf Γ x <;> rfl
  · cases h
  · cases h
theorem lvl_set {Γ : Cfg} {ls : Array Slot} {n : Nat} {L : List AV} {i : Nat} {v : AV} {w : Value} (hw : cv Γ v = some w) (h : lv_has ls n ((i, w) :: (lvl Γ 0 L).filter (fun q => !(q.1 == i) && !(q.1 + 1 == i && q.2.category == 2)))) : lv_has ls n (lvl Γ 0 (L.set i v)) := by
  refine ⟨h.1, h.2.1, fun q hq => ?_⟩
  obtain ⟨j, x, h1, h2, h3⟩ := lvl_of _ _ q hq
  have h1 : q.1 = j := by omega
  apply h.2.2
  by_cases hj : j = i
  · subst hj
    rw [List.getElem?_set] at h2
    simp only [if_true] at h2
    split at h2
    · cases h2
      cases hw.symm.trans h3
      exact List.mem_cons.mpr (Or.inl (Prod.ext h1 rfl))
    · cases h2
  · rw [List.getElem?_set_ne (fun e => hj e.symm)] at h2
    refine List.mem_cons_of_mem _ (List.mem_filter.mpr ⟨?_, ?_⟩)
    · have := lvl_get L 0 j x q.2 h2 h3
      rw [show q = (0 + j, q.2) from Prod.ext (by simpa using h1) rfl]
      exact this
    · have hc := cv_cat h3
      simp [hc, h1, hj]
/-- fewer known locals -/
def leL : List AV → List AV → Bool
  | _, [] => true
  | [], _ => false
  | x :: r, y :: q => (decide (y = vU) || decide (x = y)) && leL r q
theorem lvl_le {Γ : Cfg} {ls : Array Slot} {n : Nat} {L L' : List AV} (hL : ∀ (i : Nat) (v : AV), L'[i]? = some v → v = vU ∨ L[i]? = some v) (h : lv_has ls n (lvl Γ 0 L)) : lv_has ls n (lvl Γ 0 L') := by
  refine ⟨h.1, h.2.1, fun q hq => ?_⟩
  obtain ⟨j, x, h1, h2, h3⟩ := lvl_of _ _ q hq
  rcases hL j x h2 with e | e
  · subst e
    cases h3
  · have := lvl_at h e h3
    rw [show q.1 = j by omega]
    exact this
section AMR
variable {Γ : Cfg} {l : Launch} {M : MT} {d b pc : Nat} {L S : List AV} {h : HP} {K : Ou → HP → Prop}
/-- a plain instruction -/
theorem AW.step {pc' : Nat} {L' S' : List AV} (k : AW Γ l M d b pc' L' S' h K)
    (st : ∀ {p : Program} {e : Env} {R : Room} {s : State} {m : MethodId} {args : Array Value} {below : List Frame} {meth : Method} {c : Code} {H : Heap} {locs : List Loc} {cells slots : Nat} {Q : State → Prop} {ls : Array Slot},
      p.tables.exec = Jvm.exec → c.code = M.2.1 → s.vm.findClass M.1 = some m.cls → (∀ w ∈ gw, w.before args s = true) → lv_has ls M.2.2.1 (lvl Γ 0 L) → (∀ ls' : Array Slot, lv_has ls' M.2.2.1 (lvl Γ 0 L') → W p l e R s m args below meth c H locs cells slots Q (F0 m pc' ls' (S'.map (conc Γ)))) →
      W p l e R s m args below meth c H locs cells slots Q (F0 m pc ls (S.map (conc Γ)))) : AW Γ l M d b pc L S h K := by
  intro p e R s m args below meth c H locs cells slots mc ms ls C hl hx
  exact st C.1 C.2.1 C.2.2.2.1 C.2.2.2.2.1 hl fun ls' hl' => k p e R s m args below meth c H locs cells slots mc ms ls' C hl' hx
theorem AW.locals {L' : List AV} (k : AW Γ l M d b pc L' S h K) (hL : ∀ (i : Nat) (v : AV), L'[i]? = some v → v = vU ∨ L[i]? = some v) : AW Γ l M d b pc L S h K :=
  AW.step k fun _ _ _ _ hl kk => kk _ (lvl_le hL hl)
theorem aw_iconst {n : Int} (dg : decode M.2.1 pc = .ok (.iconst n, 1)) (k : AW Γ l M d b (pc + 1) L (vI n :: S) h K) : AW Γ l M d b pc L S h K :=
  AW.step k fun hx hb _ _ hl kk => lv_iconst hx hb dg rfl (kk _ hl)
theorem aw_bipush {n : Int} (dg : decode M.2.1 pc = .ok (.bipush n, 2)) (hn : (Int8.ofInt n).toInt32 = Int32.ofInt n) (k : AW Γ l M d b (pc + 2) L (vI n :: S) h K) : AW Γ l M d b pc L S h K :=
  AW.step k fun hx hb _ _ hl kk => lv_bipush hx hb dg hn (kk _ hl)
theorem aw_sipush {n : Int} (dg : decode M.2.1 pc = .ok (.sipush n, 3)) (hn : (Int16.ofInt n).toInt32 = Int32.ofInt n) (k : AW Γ l M d b (pc + 3) L (vI n :: S) h K) : AW Γ l M d b pc L S h K :=
  AW.step k fun hx hb _ _ hl kk => lv_sipush hx hb dg hn (kk _ hl)
theorem aw_iload_n {k' : Fin 4} {x : Int} (dg : decode M.2.1 pc = .ok (.iload_n k', 1)) (hi : L[(k' : Nat)]? = some (vI x)) (k : AW Γ l M d b (pc + 1) L (vI x :: S) h K) : AW Γ l M d b pc L S h K :=
  AW.step k fun hx hb _ _ hl kk => lv_iload_n hx hb dg rfl (lvl_at hl hi rfl) (kk _ hl)
theorem aw_iload {i : Nat} {x : Int} (dg : decode M.2.1 pc = .ok (.iload i, 2)) (hi : L[i]? = some (vI x)) (k : AW Γ l M d b (pc + 2) L (vI x :: S) h K) : AW Γ l M d b pc L S h K :=
  AW.step k fun hx hb _ _ hl kk => lv_iload hx hb dg (lvl_at hl hi rfl) (kk _ hl)
theorem aw_aload_n {k' : Fin 4} {x : Int} (dg : decode M.2.1 pc = .ok (.aload_n k', 1)) (hi : L[(k' : Nat)]? = some (vR x)) (k : AW Γ l M d b (pc + 1) L (vR x :: S) h K) : AW Γ l M d b pc L S h K :=
  AW.step k fun {p e R s m args below meth c H locs cells slots Q ls} hx hb _ _ hl kk => by
    have h1 := lvl_at hl hi rfl
    have h2 : W p l e R s m args below meth c H locs cells slots Q (F0 m (pc + 1) ls (va_rf (rf Γ x) :: S.map (conc Γ))) := kk _ hl
    revert h1 h2
    cases rf Γ x with
    | none => exact fun h1 h2 => lv_aload_nN hx hb dg rfl h1 h2
    | some a => exact fun h1 h2 => lv_aload_n hx hb dg rfl h1 h2
theorem aw_aload {i : Nat} {x : Int} (dg : decode M.2.1 pc = .ok (.aload i, 2)) (hi : L[i]? = some (vR x)) (k : AW Γ l M d b (pc + 2) L (vR x :: S) h K) : AW Γ l M d b pc L S h K :=
  AW.step k fun {p e R s m args below meth c H locs cells slots Q ls} hx hb _ _ hl kk => by
    have h1 := lvl_at hl hi rfl
    have h2 : W p l e R s m args below meth c H locs cells slots Q (F0 m (pc + 2) ls (va_rf (rf Γ x) :: S.map (conc Γ))) := kk _ hl
    revert h1 h2
    cases rf Γ x with
    | none => exact fun h1 h2 => lv_aloadN hx hb dg h1 h2
    | some a => exact fun h1 h2 => lv_aload hx hb dg h1 h2
theorem aw_istore_n {k' : Fin 4} {x : Int} (dg : decode M.2.1 pc = .ok (.istore_n k', 1)) (hn : (k' : Nat) < M.2.2.1) (k : AW Γ l M d b (pc + 1) (L.set k' (vI x)) S h K) : AW Γ l M d b pc L (vI x :: S) h K :=
  AW.step k fun hx hb _ _ hl kk => lv_istore_n hx hb dg rfl hl hn rfl fun ls' hl' => kk ls' (lvl_set rfl hl')
theorem aw_istore {i : Nat} {x : Int} (dg : decode M.2.1 pc = .ok (.istore i, 2)) (hn : i < M.2.2.1) (k : AW Γ l M d b (pc + 2) (L.set i (vI x)) S h K) : AW Γ l M d b pc L (vI x :: S) h K :=
  AW.step k fun hx hb _ _ hl kk => lv_istore hx hb dg hl hn rfl fun ls' hl' => kk ls' (lvl_set rfl hl')
theorem aw_astore_n {k' : Fin 4} {x : Int} (dg : decode M.2.1 pc = .ok (.astore_n k', 1)) (hn : (k' : Nat) < M.2.2.1) (k : AW Γ l M d b (pc + 1) (L.set k' (vR x)) S h K) : AW Γ l M d b pc L (vR x :: S) h K :=
  AW.step k fun {p e R s m args below meth c H locs cells slots Q ls} hx hb _ _ hl kk => by
    have hw : cv Γ (vR x) = some (va_rf (rf Γ x)) := rfl
    show W p l e R s m args below meth c H locs cells slots Q (F0 m pc ls (va_rf (rf Γ x) :: S.map (conc Γ)))
    revert hw
    cases rf Γ x with
    | none => exact fun hw => lv_astore_nN hx hb dg rfl hl hn rfl fun ls' hl' => kk ls' (lvl_set hw hl')
    | some a => exact fun hw => lv_astore_n hx hb dg rfl hl hn rfl fun ls' hl' => kk ls' (lvl_set hw hl')
theorem aw_astore {i : Nat} {x : Int} (dg : decode M.2.1 pc = .ok (.astore i, 2)) (hn : i < M.2.2.1) (k : AW Γ l M d b (pc + 2) (L.set i (vR x)) S h K) : AW Γ l M d b pc L (vR x :: S) h K :=
  AW.step k fun {p e R s m args below meth c H locs cells slots Q ls} hx hb _ _ hl kk => by
    have hw : cv Γ (vR x) = some (va_rf (rf Γ x)) := rfl
    show W p l e R s m args below meth c H locs cells slots Q (F0 m pc ls (va_rf (rf Γ x) :: S.map (conc Γ)))
    revert hw
    cases rf Γ x with
    | none => exact fun hw => lv_astoreN hx hb dg hl hn rfl fun ls' hl' => kk ls' (lvl_set hw hl')
    | some a => exact fun hw => lv_astore hx hb dg hl hn rfl fun ls' hl' => kk ls' (lvl_set hw hl')
end AMR
