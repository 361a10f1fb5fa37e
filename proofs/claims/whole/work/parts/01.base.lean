/-! words of the pure functions -/
abbrev ixBad (i : Int32) (n : Nat) : Prop := i < 0 ∨ n ≤ i.toNatClampNeg
def kJS : List Nat := [74, 80, 170, 175, 176, 178, 182, 184, 186]
def tJS : List String := ["column", "word", "data", "checks", "way", "pairs", "first", "balanced", "paired"]
def lenJS : List Nat := [6, 4, 4, 6, 3, 5, 5, 8, 6]
def bytJS : List (List Int32) := [[99, 111, 108, 117, 109, 110], [119, 111, 114, 100], [100, 97, 116, 97], [99, 104, 101, 99, 107, 115], [119, 97, 121], [112, 97, 105, 114, 115], [102, 105, 114, 115, 116], [98, 97, 108, 97, 110, 99, 101, 100], [112, 97, 105, 114, 101, 100]]
def strLen (i : Nat) : Int32 := Int32.ofNat (lenJS.getD i 0)
def strCh (i : Nat) (k : Int32) : Int32 := ((((bytJS.getD i []).getD k.toNatClampNeg 0) &&& 255).toUInt32 % 65536).toInt32
def jushr (x y : Int32) : Int32 := (x.toUInt32 >>> (y.toUInt32 &&& Int32.toUInt32 31)).toInt32
def jlet {α β : Type} (e : α) (k : α → β) : β := k e
def rotL (st : Nat → Option Nat) : Nat → Option Nat := fun j => if j < 12 then st (j + 1) else if j = 12 then st 0 else st j
def p_X8_dropOldest (F : Nat) (x0_1 : Int32) (a1 : Nat → Option Nat) : Option (Int32 × (Nat → Option Nat)) := some (11, rotL a1)
